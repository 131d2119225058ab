section
/-! CALL: of, with its answers -/
def ofA (v : EV) (g : GS) (x y : Int32) : Option Int32 := if 0 ≤ x.toInt ∧ x.toInt < nE v then (if y = 0 then some (pwG v g x.toNatClampNeg) else if y = 1 then some (g.2.1 x.toNatClampNeg) else if y = 2 then some (g.2.2.1 x.toNatClampNeg) else if y = 3 then some (if iE v x.toNatClampNeg = true then 1 else 0) else if y = 4 then some (g.2.2.2.1 x.toNatClampNeg) else none) else none
section OFF
variable {ad : Nat → Nat} {d : Nat} {m : Wm} {g : GS} {v : EV} {x y : Int32}
theorem ofA_no (h : ¬ InN (nE v) x) : ofA v g x y = none := if_neg (ninN_of h)
theorem ofA_in {s : Nat} (h : InN (nE v) (nI s)) (hs : s < 8) : ofA v g (nI s) y = if y = 0 then some (pwG v g s) else if y = 1 then some (g.2.1 s) else if y = 2 then some (g.2.2.1 s) else if y = 3 then some (if iE v s = true then 1 else 0) else if y = 4 then some (g.2.2.2.1 s) else none := by
  unfold ofA
  rw [if_pos (inN_of h), nI_clamp (by omega)]
theorem e_ofM (w : WT m) (hm : HM (nE v) m g) (em : EM m v) : Ct ad μX12_of (d + 300) [.ref (ad 187), .int x, .int y] m (fun r m' => WT m' ∧ Fx (RS [20, 22, 28]) m m' ∧ ∃ u : Int32, r = some (.int u) ∧ (∀ z, ofA v g x y = some z → m'.1 187 17 = 0 ∧ u = z) ∧ (ofA v g x y = none → m'.1 187 17 = 1)) := by
  have n8 := em.2.2.1
  have w0 : WT (uI m 187 17 0) := w.n rfl
  have f0 : Fx (RS [20, 22, 28]) m (uI m 187 17 0) := Fx.rf.i rfl
  have hm0 : HM (nE v) (uI m 187 17 0) g := hm
  have em0 : EM (uI m 187 17 0) v := em
  have t0 : (uI m 187 17 0).1 187 17 = 0 := u_eq
  refine v_X12_of (d := d + 299) ?_
  generalize uI m 187 17 0 = m1 at w0 f0 hm0 em0 t0 ⊢
  have lost : ofA v g x y = none → Ct ad μX12_lost (d + 299) [.ref (ad 187)] m1 (fun r m3 => ∃ v4 : Int32, r = some (.int v4) ∧ (WT m3 ∧ Fx (RS [20, 22, 28]) m m3 ∧ ∃ u : Int32, some (.int v4) = some (Value.int u) ∧ (∀ z, ofA v g x y = some z → m3.1 187 17 = 0 ∧ u = z) ∧ (ofA v g x y = none → m3.1 187 17 = 1))) := fun e => v_X12_lost ⟨0, rfl, w0.n rfl, f0.i rfl, 0, rfl, fun z hz => absurd (e.symm.trans hz) (by intro q; cases q), fun _ => u_eq⟩
  have good : ∀ (z : Int32) (m3 : Wm), ofA v g x y = some z → WT m3 → Fx (RS [20, 22, 28]) m m3 → m3.1 187 17 = 0 → (WT m3 ∧ Fx (RS [20, 22, 28]) m m3 ∧ ∃ u : Int32, some (.int z) = some (Value.int u) ∧ (∀ z, ofA v g x y = some z → m3.1 187 17 = 0 ∧ u = z) ∧ (ofA v g x y = none → m3.1 187 17 = 1)) := fun z m3 e w3 f3 t3 => ⟨w3, f3, z, rfl, fun z2 h2 => ⟨t3, Option.some.inj (e.symm.trans h2)⟩, fun h2 => absurd (e.symm.trans h2) (by intro q; cases q)⟩
  refine (sideM (d := d + 298) (x := x) em0.1 n8).to ?_
  rintro _ m2 ⟨eq, v1, rfl, y1, y2⟩
  obtain rfl := eq.symm
  refine ⟨v1, rfl, fun c => lost (ofA_no (y1 c)), fun c => ?_⟩
  have hI := y2 c
  obtain ⟨s, hs, rfl⟩ := hI.of
  have e := ofA_in (g := g) (y := y) hI (by omega)
  have V : vp_in (nI s) 8 := nat_in (by omega) (by decide)
  refine (inM (lo := 0) (hi := 4) rfl rfl).to ?_
  rintro _ m2 ⟨eq, v2, rfl, b1, b2⟩
  obtain rfl := eq.symm
  have z0 : (0 : Int32).toInt = 0 := rfl
  have z1 : (1 : Int32).toInt = 1 := rfl
  have z2 : (2 : Int32).toInt = 2 := rfl
  have z3 : (3 : Int32).toInt = 3 := rfl
  have z4 : (4 : Int32).toInt = 4 := rfl
  refine ⟨v2, rfl, fun c2 => ⟨fun q0 => ⟨fun q1 => ⟨fun q2 => ⟨fun q3 => ⟨V, ?_⟩, fun q3 => ⟨V, fun q => ?_, fun q => ?_⟩⟩, fun q2 => ⟨V, ?_⟩⟩, fun q1 => ⟨V, ?_⟩⟩, fun q0 => (powerM (d := d + 131) w0 hm0 em0 hs).to ?_⟩, fun c2 => lost ?_⟩
  · have q4 : y = 4 := by
      have b := b2 c2
      have p0 : y.toInt ≠ 0 := fun z => q0 ((fa_eq _ _).mpr (by omega))
      have p1 : y.toInt ≠ 1 := fun z => q1 ((fa_eq _ _).mpr (by omega))
      have p2 : y.toInt ≠ 2 := fun z => q2 ((fa_eq _ _).mpr (by omega))
      have p3 : y.toInt ≠ 3 := fun z => q3 ((fa_eq _ _).mpr (by omega))
      exact (fa_eq _ _).mpr (by omega)
    rw [nI_clamp (by omega), hm0.2.2.2.1 s hs]
    exact good _ _ (by rw [e, if_neg q0, if_neg q1, if_neg q2, if_neg q3, if_pos q4]) w0 f0 t0
  · rw [nI_clamp (by omega), em0.2.2.2.2.2.1 s hs] at q
    refine good _ _ ?_ w0 f0 t0
    rw [e, if_neg q0, if_neg q1, if_neg q2, if_pos q3, q]
  · rw [nI_clamp (by omega), em0.2.2.2.2.2.1 s hs] at q
    refine good _ _ ?_ w0 f0 t0
    rw [e, if_neg q0, if_neg q1, if_neg q2, if_pos q3]
    by_cases c3 : iE v s = true
    · rw [if_pos c3]
    · rw [if_neg c3] at q
      exact absurd rfl q
  · rw [nI_clamp (by omega), hm0.2.2.1 s hs]
    exact good _ _ (by rw [e, if_neg q0, if_neg q1, if_pos q2]) w0 f0 t0
  · rw [nI_clamp (by omega), hm0.2.1 s hs]
    exact good _ _ (by rw [e, if_neg q0, if_pos q1]) w0 f0 t0
  · rintro _ m3 ⟨w3, f3, rfl⟩
    exact ⟨_, rfl, good _ _ (by rw [e, if_pos q0]) w3 (f0.tr f3 (RS_sub rfl)) ((f3.at (nRS (ρ := 20) rfl rfl)).trans t0)⟩
  · have p : ∀ k : Nat, k ≤ 4 → y ≠ nI k := fun k hk z => b1 c2 (by rw [z, nI_toInt (by omega)]; omega)
    have p0 : y ≠ 0 := p 0 (by omega)
    have p1 : y ≠ 1 := p 1 (by omega)
    have p2 : y ≠ 2 := p 2 (by omega)
    have p3 : y ≠ 3 := p 3 (by omega)
    have p4 : y ≠ 4 := p 4 (by omega)
    rw [e, if_neg p0, if_neg p1, if_neg p2, if_neg p3, if_neg p4]
/-- the model's half, behind what the class answered -/
theorem og_of {c : Nat} {H : List GS} {k : Int32} {m1 : Wm} (I1 : IV m) (kd : KGd m g v H) (kb : KB c m) (w1 : WT m1) (f1 : Fx (RS [14, 51]) m m1) (hk : (∃ z, ofA v g x y = some z ∧ k = 0 ∧ m1.2.1 217 (0 : Int32).toNatClampNeg = z.toInt64) ∨ (ofA v g x y = none ∧ k = 1)) : Ct ad μX12_of (d + 300) [.ref (ad 187), .int x, .int y] m1 (fun r m3 => ∃ u : Int32, r = some (.int u) ∧ m3.1 187 17 = k ∧ (k = 0 → m3.2.1 217 (0 : Int32).toNatClampNeg = u.toInt64) ∧ InvK (KX KG (c + 1)) m3) := by
  have kd1 := kd.fx f1 rfl
  refine (e_ofM (d := d) w1 kd1.2.1 kd1.2.2.2.1).to ?_
  rintro _ m3 ⟨w3, f3, u, rfl, s1, s2⟩
  have J : InvK (KX KG (c + 1)) m3 := ⟨w3, I1.f2 f1 f3 rfl rfl, ⟨g, v, H, kd1.fx f3 rfl⟩, KB.fd c f1 f3 kb rfl rfl⟩
  rcases hk with ⟨z, e, rfl, h3⟩ | ⟨e, rfl⟩
  · obtain ⟨p1, rfl⟩ := s1 z e
    exact ⟨_, rfl, p1, fun _ => (f3 217 _ (nRS (ρ := 51) rfl rfl)).2.1.trans h3, J⟩
  · exact ⟨u, rfl, s2 e, fun q => absurd q (by decide), J⟩
end OFF
/-! A GAME OF A SEARCH: by POINTS and RAISED as they are ahead of it, on both sides -/
def qtG (v : EV) (a b : Nat) (th : Int32) (g : GS) : GS := stlG false v a b (wnG v g a b th) g
section QTG
variable {v : EV} {a b f t : Nat} {x th : Int32} {g g' : GS} {cn cn' : Bool}
theorem tch_sk (h : g.1 = g'.1) : (tchG cn v f t g).1 = (tchG cn' v f t g').1 := by
  obtain ⟨g1, g2⟩ := g
  obtain ⟨k1, k2⟩ := g'
  dsimp only at h
  subst h
  unfold tchG gainG
  dsimp only
  by_cases c : artG g1 f t (aE v) = -1
  · rw [if_pos c, if_pos c]
  · rw [if_neg c, if_neg c]
theorem stl_sk (h : g.1 = g'.1) : (stlG cn v a b x g).1 = (stlG cn' v a b x g').1 := by
  have hp : (if cn = true then ptG a b x g else g).1 = (if cn' = true then ptG a b x g' else g').1 := by
    cases cn <;> cases cn' <;> exact h
  unfold stlG
  generalize (if cn = true then ptG a b x g else g) = p at hp
  generalize (if cn' = true then ptG a b x g' else g') = p' at hp
  by_cases c2 : x = 2
  · rw [if_pos c2, if_pos c2]
    exact hp
  · rw [if_neg c2, if_neg c2]
    generalize (if x = 0 then a else b) = wi
    generalize (if x = 0 then b else a) = lo
    have h1 : (stl1 cn v wi lo p).1 = (stl1 cn' v wi lo p').1 := by
      unfold stl1
      by_cases c : lE v 0 = 0 ∨ lE v 0 = 2
      · rw [if_pos c, if_pos c]
        exact tch_sk hp
      · rw [if_neg c, if_neg c]
        exact hp
    unfold stl2
    by_cases c : lE v 0 = 1 ∨ lE v 0 = 2
    · rw [if_pos c, if_pos c]
      exact tch_sk h1
    · rw [if_neg c, if_neg c]
      exact h1
theorem tch_lu : (tchG cn v f t g).2.2.2 = g.2.2.2 := by
  unfold tchG
  split <;> rfl
theorem tch_f2 : (tchG false v f t g).2 = g.2 := by
  unfold tchG
  split <;> rfl
theorem stl_lu : (stlG cn v a b x g).2.2.2.2 = g.2.2.2.2 := by
  have hp : (if cn = true then ptG a b x g else g).2.2.2.2 = g.2.2.2.2 := by cases cn <;> rfl
  unfold stlG
  generalize (if cn = true then ptG a b x g else g) = p at hp
  by_cases c2 : x = 2
  · rw [if_pos c2]
    exact hp
  · rw [if_neg c2]
    unfold stl2 stl1
    split
    · rw [tch_lu]
      split
      · rw [tch_lu]; exact hp
      · exact hp
    · split
      · rw [tch_lu]; exact hp
      · exact hp
theorem stl_f2 : (stlG false v a b x g).2 = g.2 := by
  unfold stlG
  rw [if_neg (show ¬ (false = true) by decide)]
  by_cases c2 : x = 2
  · rw [if_pos c2]
  · rw [if_neg c2]
    unfold stl2 stl1
    split
    · rw [tch_f2]
      split
      · rw [tch_f2]
      · rfl
    · split
      · rw [tch_f2]
      · rfl
theorem tch_at (ha : aE v ≤ 4) {k : Nat} (hf : k / 4 ≠ f) (ht : k / 4 ≠ t) : (tchG cn v f t g).1 k = g.1 k := by
  unfold tchG
  by_cases c : artG g.1 f t (aE v) = -1
  · rw [if_pos c]
  · rw [if_neg c]
    rcases artG_of (s := g.1) (f := f) (t := t) (n := aE v) with q | ⟨i, hi, q⟩
    · exact absurd q c
    · rw [q, nI_clamp (by omega)]
      exact (if_neg (by omega)).trans (if_neg (by omega))
theorem stl_at (ha : aE v ≤ 4) {k : Nat} (h1 : k / 4 ≠ a) (h2 : k / 4 ≠ b) : (stlG cn v a b x g).1 k = g.1 k := by
  have hp : (if cn = true then ptG a b x g else g).1 k = g.1 k := by cases cn <;> rfl
  unfold stlG
  generalize (if cn = true then ptG a b x g else g) = p at hp
  by_cases c2 : x = 2
  · rw [if_pos c2]
    exact hp
  · rw [if_neg c2]
    have hw : k / 4 ≠ (if x = 0 then a else b) := by split <;> assumption
    have hl : k / 4 ≠ (if x = 0 then b else a) := by split <;> assumption
    unfold stl2 stl1
    split
    · rw [tch_at ha hl hw]
      split
      · rw [tch_at ha hw hl]; exact hp
      · exact hp
    · split
      · rw [tch_at ha hw hl]; exact hp
      · exact hp
end QTG
section QTC
variable {ad : Nat → Nat} {d b0 b1 ρ0 ρ1 s a e : Nat} {m m0 : Wm} {g g' g0 : GS} {v : EV} {th : Int32}
theorem HC.cg {b : Nat} (h : HC b m g) (e1 : ∀ k, k < 32 → g'.1 k = g.1 k) (e2 : g'.2 = g.2) : HC b m g' := by
  obtain ⟨h1, h2⟩ := h
  refine ⟨fun k hk => (h1 k hk).trans (e1 k hk).symm, ?_⟩
  rw [e2]
  exact h2
def cpS (s j : Nat) (g g' : GS) : GS := (fun k => if 4 * s ≤ k ∧ k < 4 * s + j then g.1 k else g'.1 k, g'.2)
theorem copySkC (w : WT m) (hb0 : SS b0 ρ0) (hb1 : SS b1 ρ1) (hd : b1 + 4 < b0 ∨ b0 + 4 < b1) (h0 : HC b0 m g') (h1 : HC b1 m g) (hs : s < 8) : Ct ad μX8_copySkills (d + 1) [.ref (ad b0), .ref (ad b1), .int (nI s)] m (fun r m' => r = none ∧ WT m' ∧ Fx (RS [2, ρ0]) m m' ∧ HC b0 m' (cpS s 4 g g')) := by
  have L : ∀ (n j : Nat) (m1 : Wm), j + n = 4 → WT m1 → Fx (RS [2, ρ0]) m m1 → HC b0 m1 (cpS s j g g') → HC b1 m1 g → AW ad E0 μX8_copySkills (d + 1) (fun r m' => r = none ∧ WT m' ∧ Fx (RS [2, ρ0]) m m' ∧ HC b0 m' (cpS s 4 g g')) 2 [(0, .ref (ad b0)), (1, .ref (ad b1)), (2, .int (nI s)), (3, .int (nI j))] [] m1 := by
    intro n
    induction n with
    | zero =>
      intro j m1 hj w1 f1 c0 c1
      obtain rfl : j = 4 := hj
      exact g_X8_copySkills_2 hb0.1 hb1.1 ⟨fun _ => ⟨rfl, w1, f1, c0⟩, fun c => absurd ((le_l 4 4 rfl (by decide) (by decide)).mpr (by omega)) c⟩
    | succ n ih =>
      intro j m1 hj w1 f1 c0 c1
      refine g_X8_copySkills_2 hb0.1 hb1.1 ⟨fun c => absurd ((le_l 4 4 rfl (by decide) (by omega)).mp c) (by omega), fun _ => (skillC (d := d) hb1 c1 hs (a := j) (by omega)).to ?_⟩
      rintro _ m2 ⟨eq, rfl⟩
      obtain rfl := eq.symm
      refine ⟨_, rfl, (putC (d := d) hb0 hs (a := j) (by omega)).to ?_⟩
      rintro _ m3 ⟨rfl, rfl⟩
      rw [nI_1]
      refine ⟨rfl, ih (j + 1) _ (by omega) (hb0.wu w1 (by decide)) (hb0.fu f1 (by decide)) (HC.cg c0.sk (fun k hk => ?_) rfl) (c1.o (by omega))⟩
      show (if 4 * s ≤ k ∧ k < 4 * s + (j + 1) then g.1 k else g'.1 k) = (if k = 4 * s + j then g.1 (4 * s + j) else (if 4 * s ≤ k ∧ k < 4 * s + j then g.1 k else g'.1 k))
      by_cases q : k = 4 * s + j
      · rw [if_pos q, if_pos (by omega), q]
      · rw [if_neg q]
        by_cases q2 : 4 * s ≤ k ∧ k < 4 * s + j
        · rw [if_pos q2, if_pos (by omega)]
        · rw [if_neg q2, if_neg (by omega)]
  refine v_X8_copySkills hb0.1 hb1.1 (L 4 0 m rfl w Fx.rf (h0.cg (fun k _ => ?_) rfl) h1)
  exact if_neg (by omega)
theorem powC26 (w : WT m) (h : HC 26 m g) (hE : EC m v) (hs : s < 8) : Ct ad μX1_power (d + 4) [.ref (ad 3), .ref (ad 26), .int (nI s)] m (fun r m' => WT m' ∧ Fx (RS [14]) m m' ∧ r = some (.int (pwG v g s))) := by
  obtain ⟨P, hP, hRu, hV⟩ := valueC (ad := ad) (d := d) SS_26 (Or.inr (Or.inr (Or.inl rfl))) w h hE hs
  refine v_X1_power (d := d + 3) SS_26.1 ⟨P, hP, hRu, ?_⟩
  rw [hE.2.1]
  refine hV.to ?_
  rintro _ m1 ⟨w1, f1, rfl⟩
  exact ⟨_, rfl, w1, f1, rfl⟩
theorem powAfterC (w : WT m) (h : HC 26 m g) (h0 : HC 21 m g) (hE : EC m v) (hs : s < 8) (ha : a < 8) (he : e < 8) (hae : a ≠ e) (ht : th = 0 ∨ th = 1 ∨ th = 2 ∨ th = 3) : Ct ad μX11_powerAfter (d + 6) [.ref (ad 0), .int (nI s), .int (nI a), .int (nI e), .int th] m (fun r m' => WT m' ∧ Fx (RS [2, 5, 14]) m m' ∧ r = some (.int (pwG v (qtG v a e th g) s)) ∧ HC 26 m' g) := by
  have hG : GR 5 := Or.inr (Or.inr (Or.inl rfl))
  refine v_X11_powerAfter (d := d + 5) ((resultC (d := d + 1) SS_26 hG w h hE ha he ht).to ?_)
  rintro _ m1 ⟨w1, f1, rfl⟩
  refine ⟨_, rfl, (settleC (d := d + 2) (cn := false) SS_26 hG w1 (h.fx SS_26 f1 rfl) (hE.fx f1 rfl) ha he hae (by decide)).to ?_⟩
  rintro _ m2 ⟨rfl, w2, f2, h2⟩
  refine ⟨rfl, (powC26 (d := d + 1) w2 h2 ((hE.fx f1 rfl).fx f2 rfl) hs).to ?_⟩
  rintro _ m3 ⟨w3, f3, rfl⟩
  have h03 : HC 21 m3 g := ((h0.fx SS_21 f1 rfl).fx SS_21 f2 rfl).fx SS_21 f3 rfl
  refine ⟨_, rfl, (copySkC (d := d + 4) w3 SS_26 SS_21 (Or.inl (by decide)) (h2.fx SS_26 f3 rfl) h03 ha).to ?_⟩
  rintro _ m4 ⟨rfl, w4, f4, h4⟩
  refine ⟨rfl, (copySkC (d := d + 4) w4 SS_26 SS_21 (Or.inl (by decide)) h4 (h03.fx SS_21 f4 rfl) he).to ?_⟩
  rintro _ m5 ⟨rfl, w5, f5, h5⟩
  refine ⟨rfl, w5, ((((Fx.tr Fx.rf f1 (RS_sub rfl)).tr f2 (RS_sub rfl)).tr f3 (RS_sub rfl)).tr f4 (RS_sub rfl)).tr f5 (RS_sub rfl), rfl, h5.cg (fun k hk => ?_) stl_f2.symm⟩
  show g.1 k = if 4 * e ≤ k ∧ k < 4 * e + 4 then g.1 k else if 4 * a ≤ k ∧ k < 4 * a + 4 then g.1 k else (stlG false v a e (wnG v g a e th) g).1 k
  split
  · rfl
  · split
    · rfl
    · exact (stl_at hE.2.2.2.1 (by omega) (by omega)).symm
end QTC
section QTM
variable {ad : Nat → Nat} {d n s a e : Nat} {m m0 : Wm} {g g' g0 : GS} {v : EV} {th : Int32}
theorem HM.cg {n : Nat} (h : HM n m g) (e1 : ∀ k, k < 4 * n → g'.1 k = g.1 k) (e2 : g'.2 = g.2) : HM n m g' := by
  obtain ⟨h1, h2⟩ := h
  refine ⟨fun k hk => (h1 k hk).trans (e1 k hk).symm, ?_⟩
  rw [e2]
  exact h2
theorem goQuietM (w : WT m) (h : HM (nE v) m g) (hE : EM m v) (hL : HL (nE v) 204 0 m g0) (h2 : g.2 = g0.2) (ha : a < nE v) (he : e < nE v) (hae : a ≠ e) (ht : th = 0 ∨ th = 1 ∨ th = 2 ∨ th = 3) : Ct ad μX12_goQuiet (d + 170) [.ref (ad 187), .int (nI a), .int (nI e), .int th] m (fun r m' => r = none ∧ WT m' ∧ Fx (RS [22, 24, 28]) m m' ∧ HM (nE v) m' (qtG v a e th g)) := by
  refine v_X12_goQuiet (d := d + 169) ((winnerM (d := d) w h hE ha he).to ?_)
  rintro _ m1 ⟨w1, f1, rfl⟩
  refine ⟨_, rfl, (settleM (d := d + 166) w1 (h.fx f1 rfl rfl) (hE.fx f1 rfl) ha he hae ht).to ?_⟩
  rintro _ m2 ⟨rfl, w2, f2, hm2⟩
  have F2 : Fx (RS [22, 24, 28]) m m2 := (Fx.tr Fx.rf f1 (RS_sub rfl)).tr f2 (RS_sub rfl)
  refine ⟨rfl, ?_⟩
  have L : ∀ (n j : Nat) (m3 : Wm), j + n = 8 → WT m3 → Fx (RS [22, 24, 28]) m m3 → (∀ k, m3.1 188 k = m2.1 188 k) → m3.1 187 8 = m2.1 187 8 → (∀ k, k < j → k < nE v → m3.1 190 k = g0.2.1 k ∧ m3.1 191 k = g0.2.2.1 k ∧ m3.1 192 k = g0.2.2.2.1 k) → AW ad E0 μX12_goQuiet (d + 170) (fun r m' => r = none ∧ WT m' ∧ Fx (RS [22, 24, 28]) m m' ∧ HM (nE v) m' (qtG v a e th g)) 17 [(0, .ref (ad 187)), (4, .int (nI j))] [] m3 := by
    intro n
    induction n with
    | zero =>
      intro j m3 hj w3 f3 k1 k2 k3
      refine g_X12_goQuiet_17 (d := d + 169) ⟨fun _ => ⟨rfl, w3, f3, fun k hk => ?_, fun k hk => ?_, fun k hk => ?_, fun k hk => ?_, ?_⟩, fun c => absurd ((le_l 8 8 rfl (by decide) (by omega)).mpr (by omega)) c⟩
      · rw [k1 k, hm2.1 k hk]
        have e1 : (stlG true v a e (wnG v g a e th) (thG th a e g)).1 = (qtG v a e th g).1 := stl_sk (g := thG th a e g) (g' := g) rfl
        exact congrFun e1 k
      · have e2 : (qtG v a e th g).2 = g0.2 := stl_f2.trans h2
        rw [e2]
        exact (k3 k (by have := hE.2.2.1; omega) hk).1
      · have e2 : (qtG v a e th g).2 = g0.2 := stl_f2.trans h2
        rw [e2]
        exact (k3 k (by have := hE.2.2.1; omega) hk).2.1
      · have e2 : (qtG v a e th g).2 = g0.2 := stl_f2.trans h2
        rw [e2]
        exact (k3 k (by have := hE.2.2.1; omega) hk).2.2
      · rw [k2, hm2.2.2.2.2]
        have e2 : (qtG v a e th g).2 = g.2 := stl_f2
        rw [e2, stl_lu]
        rfl
    | succ n ih =>
      intro j m3 hj w3 f3 k1 k2 k3
      have hL3 : HL (nE v) 204 0 m3 g0 := hL.fx (ρ := 34) f3 (fun _ => rfl) rfl
      refine g_X12_goQuiet_17 (d := d + 169) ⟨fun c => absurd ((le_l 8 8 rfl (by decide) (by omega)).mp c) (by omega), fun _ => ?_⟩
      rw [l_mul 3 3 rfl, l_add 32 32 rfl, add_l 1 1 rfl, add_l 2 2 rfl, nI_clamp (by omega), nI_clamp (by omega), nI_clamp (by omega), nI_clamp (by omega), nI_1]
      refine ⟨nat_in (by omega) (by decide), nat_in (by omega) (by decide), nat_in (by omega) (by decide), nat_in (by omega) (by decide), nat_in (by omega) (by decide), nat_in (by omega) (by decide), ?_⟩
      refine ih (j + 1) _ (by omega) (((w3.n rfl).n rfl).n rfl) (((f3.i rfl).i rfl).i rfl) (fun k => ?_) ?_ (fun k hk hn => ?_)
      · exact ((u_ne (by omega)).trans ((u_ne (by omega)).trans (u_ne (by omega)))).trans (k1 k)
      · exact ((u_ne (by omega)).trans ((u_ne (by omega)).trans (u_ne (by omega)))).trans k2
      · obtain ⟨-, -, l1, l2, l3, -⟩ := hL3
        by_cases q : k = j
        · subst q
          have t1 := l1 k hn
          have t2 := l2 k hn
          have t3 := l3 k hn
          rw [Nat.zero_add] at t1 t2 t3
          refine ⟨?_, ?_, ?_⟩
          · exact (u_ne (by omega)).trans ((u_ne (by omega)).trans (u_eq.trans t1))
          · exact (u_ne (by omega)).trans (u_eq.trans ((u_ne (by omega)).trans t2))
          · exact u_eq.trans ((u_ne (by omega)).trans ((u_ne (by omega)).trans t3))
        · obtain ⟨p1, p2, p3⟩ := k3 k (by omega) hn
          refine ⟨?_, ?_, ?_⟩
          · exact (u_ne (by omega)).trans ((u_ne (by omega)).trans ((u_ne (by omega)).trans p1))
          · exact (u_ne (by omega)).trans ((u_ne (by omega)).trans ((u_ne (by omega)).trans p2))
          · exact (u_ne (by omega)).trans ((u_ne (by omega)).trans ((u_ne (by omega)).trans p3))
  exact L 8 0 m2 (by omega) w2 F2 (fun _ => rfl) rfl (fun k hk => absurd hk (by omega))
end QTM
/-! CALL: next, with its answers -/
abbrev NxS : Type := Int32 × Int32
def nxS (v : EV) (s : Nat) (g : GS) (w a b : Nat) (S : NxS) : NxS :=
  if S.1 = -1 ∨ ¬ pwG v (qtG v a b (nI w) g) s ≤ S.2 then ((((100 : Int32) * nI w) + ((10 : Int32) * nI a)) + nI b, pwG v (qtG v a b (nI w) g) s) else S
def nxB (v : EV) (s : Nat) (g : GS) (w a : Nat) : Nat → Nat → NxS → NxS
  | 0, _, S => S
  | k + 1, b, S => nxB v s g w a k (b + 1) (nxS v s g w a b S)
def nxA (v : EV) (s : Nat) (g : GS) (w n : Nat) : Nat → Nat → NxS → NxS
  | 0, _, S => S
  | k + 1, a, S => nxA v s g w n k (a + 1) (nxB v s g w a (n - (a + 1)) (a + 1) S)
def nxW (v : EV) (s : Nat) (g : GS) (n : Nat) : Nat → Nat → NxS → NxS
  | 0, _, S => S
  | k + 1, w, S => nxW v s g n k (w + 1) (nxA v s g w n n 0 S)
def nxO (v : EV) (x : Int32) (g : GS) : Int32 := if 0 ≤ x.toInt ∧ x.toInt < nE v then (if nE v < 2 then -2 else (nxW v x.toNatClampNeg g (nE v) 3 0 (-1, 0)).1) else -1
theorem nxS_1 {v : EV} {s w a b : Nat} {g : GS} {S : NxS} (h : S.1 = -1) : nxS v s g w a b S = ((((100 : Int32) * nI w) + ((10 : Int32) * nI a)) + nI b, pwG v (qtG v a b (nI w) g) s) := if_pos (Or.inl h)
theorem nxS_2 {v : EV} {s w a b : Nat} {g : GS} {S : NxS} (h : ¬ pwG v (qtG v a b (nI w) g) s ≤ S.2) : nxS v s g w a b S = ((((100 : Int32) * nI w) + ((10 : Int32) * nI a)) + nI b, pwG v (qtG v a b (nI w) g) s) := if_pos (Or.inr h)
theorem nxS_3 {v : EV} {s w a b : Nat} {g : GS} {S : NxS} (h1 : ¬ S.1 = -1) (h : pwG v (qtG v a b (nI w) g) s ≤ S.2) : nxS v s g w a b S = S := if_neg (fun z => z.elim h1 (fun q => q h))
section NXC
variable {ad : Nat → Nat} {d s : Nat} {m m0 : Wm} {g : GS} {v : EV}
/-- between two tries of the class -/
def ncI (v : EV) (g : GS) (m0 m : Wm) : Prop := WT m ∧ Fx (RS [2, 5, 14]) m0 m ∧ HC 26 m g ∧ HC 21 m g ∧ EC m v
def ncQ (m0 : Wm) (x : Int32) (r : Option Value) (m' : Wm) : Prop := WT m' ∧ Fx (RS [2, 5, 9, 14]) m0 m' ∧ r = some (.int x)
theorem nc_72 {Q : Option Value → Wm → Prop} {w a : Nat} {T : NxS} (hs : s < nE v) (hw : w ≤ 2) (ha : a < nE v)
    (K : ∀ m1, ncI v g m0 m1 → AW ad E0 μX11_next (d + 7) Q 54 [(0, .ref (ad 0)), (1, .int (nI s)), (2, .int T.1), (3, .int T.2), (4, .int (nI w)), (5, .int (nI (a + 1)))] [] m1) :
    ∀ (k b : Nat) (S : NxS) (m1 : Wm), a < b → b + k = nE v → nxB v s g w a k b S = T → ncI v g m0 m1 → AW ad E0 μX11_next (d + 7) Q 72 [(0, .ref (ad 0)), (1, .int (nI s)), (2, .int S.1), (3, .int S.2), (4, .int (nI w)), (5, .int (nI a)), (6, .int (nI b))] [] m1 := by
  intro k
  induction k with
  | zero =>
    intro b S m1 hab hk hT J
    have n8 := J.2.2.2.2.2.2.1
    have e33 := J.2.2.2.2.1
    obtain rfl : S = T := hT
    refine g_X11_next_72 (d := d + 6) ⟨fun _ => ?_, fun c => absurd (by rw [e33]; exact (nI_leI (by omega) (by omega)).mpr (by omega)) c⟩
    rw [nI_1]
    exact K m1 J
  | succ k ih =>
    intro b S m1 hab hk hT J
    have n8 := J.2.2.2.2.2.2.1
    have e33 := J.2.2.2.2.1
    obtain ⟨w1, f1, h26, h21, ec⟩ := J
    refine g_X11_next_72 (d := d + 6) ⟨fun c => absurd (by rw [e33] at c; exact (nI_leI (by omega) (by omega)).mp c) (by omega), fun _ => (powAfterC (d := d) w1 h26 h21 ec (s := s) (a := a) (e := b) (by omega) (by omega) (by omega) (by omega) (th_of hw)).to ?_⟩
    rintro _ m2 ⟨w2, f2, rfl, h2⟩
    have J2 : ncI v g m0 m2 := ⟨w2, f1.tr f2 (fun _ _ h => h), h2, h21.fx SS_21 f2 rfl, ec.fx f2 rfl⟩
    have G : nxS v s g w a b S = ((((100 : Int32) * nI w) + ((10 : Int32) * nI a)) + nI b, pwG v (qtG v a b (nI w) g) s) → AW ad E0 μX11_next (d + 7) Q 108 [(0, .ref (ad 0)), (1, .int (nI s)), (4, .int (nI w)), (5, .int (nI a)), (6, .int (nI b)), (7, .int (pwG v (qtG v a b (nI w) g) s))] [] m2 := fun e => by
      refine g_X11_next_108 (d := d + 6) ?_
      rw [nI_1]
      have := ih (b + 1) (nxS v s g w a b S) m2 (by omega) (by omega) hT J2
      rw [e] at this
      exact this
    refine ⟨_, rfl, fun c => G (nxS_1 c), fun c => ⟨fun c2 => ?_, fun c2 => G (nxS_2 c2)⟩⟩
    rw [nI_1]
    have := ih (b + 1) (nxS v s g w a b S) m2 (by omega) (by omega) hT J2
    rw [nxS_3 c c2] at this
    exact this
theorem nc_54 {Q : Option Value → Wm → Prop} {w : Nat} {T : NxS} (hs : s < nE v) (hw : w ≤ 2)
    (K : ∀ m1, ncI v g m0 m1 → AW ad E0 μX11_next (d + 7) Q 45 [(0, .ref (ad 0)), (1, .int (nI s)), (2, .int T.1), (3, .int T.2), (4, .int (nI (w + 1)))] [] m1) :
    ∀ (k a : Nat) (S : NxS) (m1 : Wm), a + k = nE v → nxA v s g w (nE v) k a S = T → ncI v g m0 m1 → AW ad E0 μX11_next (d + 7) Q 54 [(0, .ref (ad 0)), (1, .int (nI s)), (2, .int S.1), (3, .int S.2), (4, .int (nI w)), (5, .int (nI a))] [] m1 := by
  intro k
  induction k with
  | zero =>
    intro a S m1 hk hT J
    have n8 := J.2.2.2.2.2.2.1
    have e33 := J.2.2.2.2.1
    obtain rfl : S = T := hT
    refine g_X11_next_54 (d := d + 6) ⟨fun _ => ?_, fun c => absurd (by rw [e33]; exact (nI_leI (by omega) (by omega)).mpr (by omega)) c⟩
    rw [nI_1]
    exact K m1 J
  | succ k ih =>
    intro a S m1 hk hT J
    have n8 := J.2.2.2.2.2.2.1
    have e33 := J.2.2.2.2.1
    refine g_X11_next_54 (d := d + 6) ⟨fun c => absurd (by rw [e33] at c; exact (nI_leI (by omega) (by omega)).mp c) (by omega), fun _ => ?_⟩
    rw [nI_1]
    exact nc_72 hs hw (by omega) (fun m2 J2 => ih (a + 1) _ m2 (by omega) hT J2) (nE v - (a + 1)) (a + 1) S m1 (by omega) (by omega) rfl J
theorem nc_45 {T : NxS} (hs : s < nE v) : ∀ (k w : Nat) (S : NxS) (m1 : Wm), w + k = 3 → nxW v s g (nE v) k w S = T → ncI v g m0 m1 → AW ad E0 μX11_next (d + 7) (ncQ m0 T.1) 45 [(0, .ref (ad 0)), (1, .int (nI s)), (2, .int S.1), (3, .int S.2), (4, .int (nI w))] [] m1 := by
  intro k
  induction k with
  | zero =>
    intro w S m1 hk hT J
    obtain rfl : S = T := hT
    refine g_X11_next_45 (d := d + 6) ⟨fun _ => (s_X11_tell J.1).to ?_, fun c => absurd ((le_l 3 3 rfl (by decide) (by omega)).mpr (by omega)) c⟩
    rintro _ m2 ⟨w2, f2, rfl⟩
    exact ⟨rfl, w2, (Fx.tr Fx.rf J.2.1 (RS_sub rfl)).tr f2 (RS_sub rfl), rfl⟩
  | succ k ih =>
    intro w S m1 hk hT J
    exact g_X11_next_45 (d := d + 6) ⟨fun c => absurd ((le_l 3 3 rfl (by decide) (by omega)).mp c) (by omega), fun _ => nc_54 hs (by omega) (fun m2 J2 => ih (w + 1) _ m2 (by omega) hT J2) (nE v) 0 S m1 (by omega) rfl J⟩
theorem e_nextC {x1 : Int32} (w : WT m) (hc : HC 21 m g) (ec : EC m v) : Ct ad μX11_next (d + 7) [.ref (ad 0), .int x1] m (ncQ m (nxO v x1 g)) := by
  have n8 := ec.2.2.1
  refine v_X11_next (d := d + 6) ((hasC (d := d + 6) ec.1 n8).to ?_)
  rintro _ m1 ⟨eq, v1, rfl, y1, y2⟩
  obtain rfl := eq.symm
  refine ⟨v1, rfl, fun q => ?_, fun q => ⟨w, Fx.rf, ?_⟩⟩
  · have hI := y2 q
    obtain ⟨s, hs, rfl⟩ := hI.of
    refine ⟨fun c => (copyC (d := d + 5) w SS_26 SS_21 (Or.inl (by decide)) hc).to ?_, fun c => ⟨w, Fx.rf, ?_⟩⟩
    · rw [ec.1] at c
      have c := (le_l 2 2 rfl (by decide) (by omega)).mp c
      rintro _ m1 ⟨rfl, w1, f1, h1⟩
      have eo : nxO v (nI s) g = (nxW v s g (nE v) 3 0 (-1, 0)).1 := by
        unfold nxO
        rw [if_pos (inN_of hI), if_neg (by omega), nI_clamp (by omega)]
      rw [eo]
      exact ⟨rfl, nc_45 (d := d) hs 3 0 (-1, 0) m1 rfl rfl ⟨w1, Fx.tr Fx.rf f1 (RS_sub rfl), h1, hc.fx SS_21 f1 rfl, ec.fx f1 rfl⟩⟩
    · rw [ec.1] at c
      have c : ¬ 2 ≤ nE v := fun z => c ((le_l 2 2 rfl (by decide) (by omega)).mpr z)
      unfold nxO
      rw [if_pos (inN_of hI), if_pos (by omega)]
  · unfold nxO
    rw [if_neg (ninN_of (y1 q))]
end NXC
section NXM
variable {ad : Nat → Nat} {d s : Nat} {m m0 : Wm} {g : GS} {v : EV}
/-- between two tries of the model -/
def nmI (v : EV) (g : GS) (m0 m : Wm) : Prop := WT m ∧ Fx (RS [20, 22, 24, 26, 28, 34, 49]) m0 m ∧ HM (nE v) m g ∧ HL (nE v) 204 0 m g ∧ EM m v
def nmQ (v : EV) (g : GS) (m0 : Wm) (x : Int32) (r : Option Value) (m' : Wm) : Prop := WT m' ∧ Fx (RS [20, 22, 24, 26, 28, 34, 49]) m0 m' ∧ HM (nE v) m' g ∧ r = some (.int x)
theorem nm_66 {Q : Option Value → Wm → Prop} {w a : Nat} {T : NxS} (hs : s < nE v) (hw : w ≤ 2) (ha : a < nE v)
    (K : ∀ m1, nmI v g m0 m1 → AW ad E0 μX12_next (d + 171) Q 51 [(0, .ref (ad 187)), (1, .int (nI s)), (2, .int T.1), (3, .int T.2), (4, .int (nI w)), (5, .int (nI (a + 1)))] [] m1) :
    ∀ (k b : Nat) (S : NxS) (m1 : Wm), a < b → b + k = nE v → nxB v s g w a k b S = T → nmI v g m0 m1 → AW ad E0 μX12_next (d + 171) Q 66 [(0, .ref (ad 187)), (1, .int (nI s)), (2, .int S.1), (3, .int S.2), (4, .int (nI w)), (5, .int (nI a)), (6, .int (nI b))] [] m1 := by
  intro k
  induction k with
  | zero =>
    intro b S m1 hab hk hT J
    have em := J.2.2.2.2
    have n8 := em.2.2.1
    obtain rfl : S = T := hT
    refine g_X12_next_66 (d := d + 170) ⟨fun _ => ?_, fun c => absurd (by rw [em.1]; exact (nI_leI (by omega) (by omega)).mpr (by omega)) c⟩
    rw [nI_1]
    exact K m1 J
  | succ k ih =>
    intro b S m1 hab hk hT J
    obtain ⟨w1, f1, hm, hl, em⟩ := J
    have n8 := em.2.2.1
    refine g_X12_next_66 (d := d + 170) ⟨fun c => absurd (by rw [em.1] at c; exact (nI_leI (by omega) (by omega)).mp c) (by omega), fun _ => (goQuietM (d := d) w1 hm em hl rfl (a := a) (e := b) (by omega) (by omega) (by omega) (th_of hw)).to ?_⟩
    rintro _ m2 ⟨rfl, w2, f2, hm2⟩
    refine ⟨rfl, (powerM (d := d + 2) w2 hm2 (em.fx f2 rfl) hs).to ?_⟩
    rintro _ m3 ⟨w3, f3, rfl⟩
    have hl3 : HL (nE v) 204 0 m3 g := (hl.fx (ρ := 34) f2 (fun _ => rfl) rfl).fx (ρ := 34) f3 (fun _ => rfl) rfl
    refine ⟨_, rfl, (bringH (x := 0) (na := 57) rfl (by decide) (by decide) w3 hl3 (by decide)).to ?_⟩
    rintro _ m4 ⟨rfl, w4, f4, hm4⟩
    have J4 : nmI v g m0 m4 := ⟨w4, ((f1.tr f2 (RS_sub rfl)).tr f3 (RS_sub rfl)).tr f4 (RS_sub rfl), hm4, hl3.fx (ρ := 34) f4 (fun _ => rfl) rfl, ((em.fx f2 rfl).fx f3 rfl).fx f4 rfl⟩
    have G : nxS v s g w a b S = ((((100 : Int32) * nI w) + ((10 : Int32) * nI a)) + nI b, pwG v (qtG v a b (nI w) g) s) → AW ad E0 μX12_next (d + 171) Q 115 [(0, .ref (ad 187)), (1, .int (nI s)), (4, .int (nI w)), (5, .int (nI a)), (6, .int (nI b)), (7, .int (pwG v (qtG v a b (nI w) g) s))] [] m4 := fun e => by
      refine g_X12_next_115 (d := d + 170) ?_
      rw [nI_1]
      have := ih (b + 1) (nxS v s g w a b S) m4 (by omega) (by omega) hT J4
      rw [e] at this
      exact this
    refine ⟨rfl, fun c => G (nxS_1 c), fun c => ⟨fun c2 => G (nxS_2 (fun z => ?_)), fun c2 => ?_⟩⟩
    · have := z_lt c2
      have := z_le z
      omega
    · have c3 : pwG v (qtG v a b (nI w) g) s ≤ S.2 := (fa_le _ _).mpr (z_nlt c2)
      rw [nI_1]
      have := ih (b + 1) (nxS v s g w a b S) m4 (by omega) (by omega) hT J4
      rw [nxS_3 c c3] at this
      exact this
theorem nm_51 {Q : Option Value → Wm → Prop} {w : Nat} {T : NxS} (hs : s < nE v) (hw : w ≤ 2)
    (K : ∀ m1, nmI v g m0 m1 → AW ad E0 μX12_next (d + 171) Q 42 [(0, .ref (ad 187)), (1, .int (nI s)), (2, .int T.1), (3, .int T.2), (4, .int (nI (w + 1)))] [] m1) :
    ∀ (k a : Nat) (S : NxS) (m1 : Wm), a + k = nE v → nxA v s g w (nE v) k a S = T → nmI v g m0 m1 → AW ad E0 μX12_next (d + 171) Q 51 [(0, .ref (ad 187)), (1, .int (nI s)), (2, .int S.1), (3, .int S.2), (4, .int (nI w)), (5, .int (nI a))] [] m1 := by
  intro k
  induction k with
  | zero =>
    intro a S m1 hk hT J
    have em := J.2.2.2.2
    have n8 := em.2.2.1
    obtain rfl : S = T := hT
    refine g_X12_next_51 (d := d + 170) ⟨fun _ => ?_, fun c => absurd (by rw [em.1]; exact (nI_leI (by omega) (by omega)).mpr (by omega)) c⟩
    rw [nI_1]
    exact K m1 J
  | succ k ih =>
    intro a S m1 hk hT J
    have em := J.2.2.2.2
    have n8 := em.2.2.1
    refine g_X12_next_51 (d := d + 170) ⟨fun c => absurd (by rw [em.1] at c; exact (nI_leI (by omega) (by omega)).mp c) (by omega), fun _ => ?_⟩
    rw [nI_1]
    exact nm_66 hs hw (by omega) (fun m2 J2 => ih (a + 1) _ m2 (by omega) hT J2) (nE v - (a + 1)) (a + 1) S m1 (by omega) (by omega) rfl J
theorem nm_42 {T : NxS} (hs : s < nE v) : ∀ (k w : Nat) (S : NxS) (m1 : Wm), w + k = 3 → nxW v s g (nE v) k w S = T → nmI v g m0 m1 → AW ad E0 μX12_next (d + 171) (nmQ v g m0 T.1) 42 [(0, .ref (ad 187)), (1, .int (nI s)), (2, .int S.1), (3, .int S.2), (4, .int (nI w))] [] m1 := by
  intro k
  induction k with
  | zero =>
    intro w S m1 hk hT J
    obtain rfl : S = T := hT
    obtain ⟨w1, f1, hm1, hl1, em1⟩ := J
    have w2 : WT (uI m1 187 16 (0 : Int32)) := w1.t rfl (by decide) (by decide)
    have e16 : ((uI m1 187 16 (0 : Int32)).1 187 16).toInt = 0 := by
      rw [u_eq]
      rfl
    have hm2 : HM (nE v) (uI m1 187 16 (0 : Int32)) g := hm1
    refine g_X12_next_42 (d := d + 170) ⟨fun _ => (s_X12_tell w2 (by omega)).to ?_, fun c => absurd ((le_l 3 3 rfl (by decide) (by omega)).mpr (by omega)) c⟩
    rintro _ m3 ⟨w3, f3, rfl, -⟩
    exact ⟨rfl, w3, (f1.i rfl).tr f3 (RS_sub rfl), hm2.fx f3 rfl rfl, rfl⟩
  | succ k ih =>
    intro w S m1 hk hT J
    exact g_X12_next_42 (d := d + 170) ⟨fun c => absurd ((le_l 3 3 rfl (by decide) (by omega)).mp c) (by omega), fun _ => nm_51 hs (by omega) (fun m2 J2 => ih (w + 1) _ m2 (by omega) hT J2) (nE v) 0 S m1 (by omega) rfl J⟩
theorem e_nextM {x1 : Int32} (w : WT m) (hm : HM (nE v) m g) (em : EM m v) : Ct ad μX12_next (d + 171) [.ref (ad 187), .int x1] m (nmQ v g m (nxO v x1 g)) := by
  have n8 := em.2.2.1
  have w0 : WT (uI m 187 17 0) := w.n rfl
  have f0 : Fx (RS [20, 22, 24, 26, 28, 34, 49]) m (uI m 187 17 0) := Fx.rf.i rfl
  have hm0 : HM (nE v) (uI m 187 17 0) g := hm
  have em0 : EM (uI m 187 17 0) v := em
  refine v_X12_next (d := d + 170) ?_
  generalize uI m 187 17 0 = m1 at w0 f0 hm0 em0 ⊢
  refine (sideM (d := d + 169) em0.1 n8).to ?_
  rintro _ m2 ⟨eq, v1, rfl, y1, y2⟩
  obtain rfl := eq.symm
  refine ⟨v1, rfl, fun q => ?_, fun q => ⟨w0, f0, hm0, ?_⟩⟩
  · have hI := y2 q
    obtain ⟨s, hs, rfl⟩ := hI.of
    refine ⟨fun c => (layH (x := 0) (na := 57) (reg := 34) rfl (by decide) (by decide) (fun _ => rfl) (fun _ => rfl) w0 hm0 n8 (by decide)).to ?_, fun c => ⟨w0, f0, hm0, ?_⟩⟩
    · rw [em0.1] at c
      have c := (le_l 2 2 rfl (by decide) (by omega)).mp c
      rintro _ m3 ⟨rfl, w3, f3, hl3, -, -⟩
      have eo : nxO v (nI s) g = (nxW v s g (nE v) 3 0 (-1, 0)).1 := by
        unfold nxO
        rw [if_pos (inN_of hI), if_neg (by omega), nI_clamp (by omega)]
      rw [eo]
      exact ⟨rfl, nm_42 (d := d) hs 3 0 (-1, 0) m3 rfl rfl ⟨w3, f0.tr f3 (RS_sub rfl), hm0.fx f3 rfl rfl, hl3, em0.fx f3 rfl⟩⟩
    · rw [em0.1] at c
      have c : ¬ 2 ≤ nE v := fun z => c ((le_l 2 2 rfl (by decide) (by omega)).mpr z)
      unfold nxO
      rw [if_pos (inN_of hI), if_pos (by omega)]
  · unfold nxO
    rw [if_neg (ninN_of (y1 q))]
theorem og_next (c : Nat) (x1 : Int32) : Both ad d μX11_next μX12_next [.int x1] (InvK (KX KG c)) (InvK (KX KG (c + 1))) := fun m I => by
  obtain ⟨w, I1, ⟨g, v, H, kd⟩, kb⟩ := I
  refine (e_nextC (d := d + 293) (x1 := x1) w kd.1 kd.2.2.1).to ?_
  rintro _ m1 ⟨w1, f1, rfl⟩
  have kd1 := kd.fx f1 rfl
  refine ⟨_, rfl, (e_nextM (d := d + 129) (x1 := x1) w1 kd1.2.1 kd1.2.2.2.1).to ?_⟩
  rintro _ m2 ⟨w2, f2, hm2, rfl⟩
  exact ⟨rfl, w2, I1.f2 f1 f2 rfl rfl, ⟨g, v, H, kd1.hms f2 rfl hm2⟩, KB.fd c f1 f2 kb rfl rfl⟩
end NXM
/-! WHAT HAPPENS AHEAD: rounds on a copy, what all sides know; a plan, or none -/
def PlO (v : EV) (m : Wm) : Option PLN → Prop
  | none => m.1 187 11 = 0 ∧ ∃ P Q, PRF m P Q ∧ m.1 P 5 = 0
  | some p => PlnOK v p ∧ PlnC m p ∧ PlnM m p
/-- the league behind n rounds, by no luck -/
def ahG (v : EV) (p : PLN) (n nr : Nat) (g : GS) : GS := (rdsR false false v p n nr (g, [], 0, 0)).1
def toF (f : Nat → Int32) (ar : Nat) : Nat → Int32
  | 0 => 0
  | k + 1 => toF f ar k + smF f (4 * k) ar
def totG (v : EV) (g : GS) : Int32 := toF g.1 (aE v) (nE v)
section AHP
variable {v : EV} {p : PLN} {m m' : Wm} {S : List Nat} {op : Option PLN} {g g' : GS} {a b : Nat} {th : Int32} {lk : Bool}
theorem plO_of (h : PlR m) (ec : EC m v) : ∃ op, PlO v m op := by
  by_cases h0 : m.1 187 11 = 0
  · obtain ⟨P, Q, hR, n, R, gN, sn, x1, x2, x3, x4, -⟩ := h
    exact ⟨none, h0, P, Q, hR, x3.trans (x4.symm.trans h0)⟩
  · obtain ⟨p, hp⟩ := pln_of h ec h0
    exact ⟨some p, hp⟩
theorem PlO.fx (h : PlO v m op) (f : Fx (RS S) m m') (e7 : S.elem 7 = false) (e54 : S.elem 54 = false) (e25 : S.elem 25 = false) (e55 : S.elem 55 = false) : PlO v m' op := by
  cases op with
  | none =>
    obtain ⟨h1, P, Q, hR, h2⟩ := h
    have := hR.2.2
    exact ⟨(f.at (nRS (ρ := 25) e25 rfl)).trans h1, P, Q, hR.fx f e54, (f.at (n7 e7 5 (by omega) (by omega))).trans h2⟩
  | some p => exact ⟨h.1, h.2.1.fx f e7 e54, h.2.2.fx f e25 e55⟩
theorem PlnOK.ne (h : PlnOK v p) : ¬ nI (rdP p) = 0 := fun z => by
  have h1 := h.1
  have h2 := h.2.1
  have := (nI_eq (a := rdP p) (b := 0) (by omega) (by omega)).mp z
  omega
theorem PlO.c (h : PlO v m op) : ∃ P, m.2.2 0 9 = some P ∧ Pl P ∧ (m.1 P 5 = 0 ↔ op = none) := by
  cases op with
  | none =>
    obtain ⟨h1, P, Q, hR, h2⟩ := h
    obtain ⟨q1, q2, -⟩ := hR.pl
    exact ⟨P, q1, q2, fun _ => rfl, fun _ => h2⟩
  | some p =>
    obtain ⟨hp, ⟨P, Q, hR, h2, -⟩, -⟩ := h
    obtain ⟨q1, q2, -⟩ := hR.pl
    exact ⟨P, q1, q2, fun z => absurd (h2.symm.trans z) hp.ne, fun z => by cases z⟩
theorem PlO.mm (h : PlO v m op) : m.1 187 11 = 0 ↔ op = none := by
  cases op with
  | none => exact ⟨fun _ => rfl, fun _ => h.1⟩
  | some p => exact ⟨fun z => absurd (h.2.2.1.symm.trans z) h.1.ne, fun z => by cases z⟩
theorem run_1 {sv sv' : Bool} : ∀ (k j : Nat) (T T' : RSt), T.1 = T'.1 → (runR lk sv v p k j T).1 = (runR lk sv' v p k j T').1 := by
  intro k
  induction k with
  | zero => intro j T T' h; exact h
  | succ k ih =>
    intro j T T' h
    refine ih (j + 1) (stepR lk sv v p j T) (stepR lk sv' v p j T') ?_
    show goG lk v (f1P p j) (f2P p j) (thP p j) T.1 = goG lk v (f1P p j) (f2P p j) (thP p j) T'.1
    rw [h]
theorem rds_1 {sv sv' : Bool} : ∀ (k ρ : Nat) (T T' : RSt), T.1 = T'.1 → (rdsR lk sv v p k ρ T).1 = (rdsR lk sv' v p k ρ T').1 := by
  intro k
  induction k with
  | zero => intro ρ T T' h; exact h
  | succ k ih => intro ρ T T' h; exact ih _ _ _ (run_1 _ _ _ _ h)
theorem go_E (h : GE g g') : GE (stlG true v a b (wnG v g a b th) g) (goG false v a b th g') := by
  have nb : ¬ byG false v th := fun z => absurd z.1 (by decide)
  unfold goG wonG drwG
  rw [if_neg nb, if_neg nb, wnG_E h]
  exact stlG_E ⟨h.1, h.2.1, h.2.2⟩
theorem toF_ch {f f' : Nat → Int32} {ar : Nat} (ha : ar ≤ 4) : ∀ n, (∀ k, k < 4 * n → f k = f' k) → toF f ar n = toF f' ar n := by
  intro n
  induction n with
  | zero => intro _; rfl
  | succ n ih =>
    intro h
    show toF f ar n + smF f (4 * n) ar = toF f' ar n + smF f' (4 * n) ar
    rw [ih (fun k hk => h k (by omega)), smF_ch ar (fun k h1 h2 => h k (by omega))]
theorem totG_E (h : GE g g') : totG v g = totG v g' := by
  unfold totG
  rw [h.1]
end AHP
section AHC
variable {ad : Nat → Nat} {d b ρ : Nat} {m m0 : Wm} {g : GS} {v : EV} {p : PLN}
def ahI (m0 : Wm) (S : RSt) (m : Wm) : Prop := WT m ∧ Fx (RS [2, 5, 14]) m0 m ∧ ∃ g', GE g' S.1 ∧ HC 26 m g'
set_option maxHeartbeats 1000000 in
theorem ah_45 (hp : PlnOK v p) {x1 x3 : Int32} {ρ : Nat} (hρ : ρ < rdP p) {Q : Option Value → Wm → Prop} (T : RSt) (hE : EC m0 v) (hP : PlnC m0 p)
    (K : ∀ m1, ahI m0 T m1 → AW ad E0 μX11_playAhead (d + 5) Q 18 [(0, .ref (ad 0)), (1, .int x1), (2, .int (nI (nxP p ρ))), (3, .int (x3 + (1 : Int32)))] [] m1) :
    ∀ (n j : Nat) (S : RSt) (m : Wm), j + n = enP p ρ → ahI m0 S m → T = runR false false v p n j S →
      AW ad E0 μX11_playAhead (d + 5) Q 45 [(0, .ref (ad 0)), (1, .int x1), (2, .int (nI ρ)), (3, .int x3), (4, .int (nI (enP p ρ))), (5, .int (nI j))] [] m := by
  intro n
  have hen := hp.en hρ
  have hG : GR 5 := Or.inr (Or.inr (Or.inl rfl))
  obtain ⟨a1, a2, a3, a4, a5⟩ := hp
  induction n with
  | zero =>
    intro j S m hj R hT
    obtain ⟨P, Q', hR, p1, p2, p3, p4⟩ := hP.fx R.2.1 rfl rfl
    obtain ⟨q1, q2, q3⟩ := hR.pl
    refine g_X11_playAhead_45 (d := d + 4) ⟨fun _ => ⟨P, q1, q2, ?_⟩, fun c => absurd ((nI_leI (by omega) (by omega)).mpr (by omega)) c⟩
    refine (afterC (d := d + 4) (p := p) q2 p1 a2 (by omega)).to ?_
    rintro _ m2 ⟨eq, rfl⟩
    obtain rfl := eq.symm
    have hT' : T = S := hT
    rw [← hT'] at R
    exact ⟨_, rfl, K _ R⟩
  | succ n ih =>
    intro j S m hj R hT
    obtain ⟨w, f, g', hg, h26⟩ := R
    obtain ⟨P, Q', hR, p1, p2, p3, p4⟩ := hP.fx f rfl rfl
    have hPQ := hR.2.2
    obtain ⟨q1, q2, q3⟩ := hR.pl
    obtain ⟨b1, b2, b3⟩ := p3 j (by omega)
    obtain ⟨c1, c2, c3, c4⟩ := a5 j (by omega)
    have E1 := hE.fx f rfl
    have n8 := E1.2.2.1
    refine g_X11_playAhead_45 (d := d + 4) ⟨fun c => absurd ((nI_leI (by omega) (by omega)).mp c) (by omega), fun _ => ?_⟩
    refine ⟨P, q1, q2, nat_in (by omega) (by decide), P, q1, q2, nat_in (by omega) (by decide), P, q1, q2, nat_in (by omega) (by decide), ?_⟩
    rw [nI_clamp (by omega), b1, b2, b3]
    refine (resultC (d := d) SS_26 hG w h26 E1 (by omega) (by omega) c4).to ?_
    rintro _ m2 ⟨w2, f2, rfl⟩
    obtain ⟨r1, r2, -⟩ := (hR.fx f2 rfl).pl
    have e1 : m2.1 (P + 1) j = nI (f1P p j) := (f2.at (n7 rfl j (by omega) (by omega))).trans b1
    have e2 : m2.1 (P + 2) j = nI (f2P p j) := (f2.at (n7 rfl j (by omega) (by omega))).trans b2
    refine ⟨_, rfl, P, r1, r2, nat_in (by omega) (by decide), P, r1, r2, nat_in (by omega) (by decide), ?_⟩
    rw [e1, e2, nI_1]
    refine (settleC (d := d + 1) (cn := true) SS_26 hG w2 (h26.fx SS_26 f2 rfl) (E1.fx f2 rfl) (by omega) (by omega) c3 (by decide)).to ?_
    rintro _ m3 ⟨rfl, w3, f3, h3⟩
    exact ⟨rfl, ih (j + 1) (stepR false false v p j S) m3 (by omega) ⟨w3, (f.tr f2 (RS_sub rfl)).tr f3 (RS_sub rfl), _, go_E hg, h3⟩ hT⟩
theorem ah_18 (hp : PlnOK v p) {n : Nat} (hn : n ≤ 200) (T : RSt) (hE : EC m0 v) (hP : PlnC m0 p) :
    ∀ (k i ρ : Nat) (S : RSt) (m : Wm), i + k = n → ρ < rdP p → ahI m0 S m → T = rdsR false false v p k ρ S →
      AW ad E0 μX11_playAhead (d + 5) (fun r m' => r = none ∧ ahI m0 T m') 18 [(0, .ref (ad 0)), (1, .int (nI n)), (2, .int (nI ρ)), (3, .int (nI i))] [] m := by
  intro k
  have hp2 := hp.2.1
  induction k with
  | zero =>
    intro i ρ S m hi hρ R hT
    have hT' : T = S := hT
    rw [← hT'] at R
    exact g_X11_playAhead_18 (d := d + 4) ⟨fun _ => ⟨rfl, R⟩, fun c => absurd ((nI_leI (by omega) (by omega)).mpr (by omega)) c⟩
  | succ k ih =>
    intro i ρ S m hi hρ R hT
    obtain ⟨P, Q', hR, p1, p2, p3, p4⟩ := hP.fx R.2.1 rfl rfl
    obtain ⟨q1, q2, q3⟩ := hR.pl
    have hen := hp.en hρ
    refine g_X11_playAhead_18 (d := d + 4) ⟨fun c => absurd ((nI_leI (by omega) (by omega)).mp c) (by omega), fun _ => ⟨P, q1, q2, ?_⟩⟩
    rw [nI_1]
    refine (beginC (d := d + 4) (p := p) q2 p1 p2 p4 hp2 (by omega)).to ?_
    rintro _ m2 ⟨eq, rfl⟩
    obtain rfl := eq.symm
    refine ⟨_, rfl, P, q1, q2, ?_⟩
    refine (beginC (d := d + 4) (p := p) q2 p1 p2 p4 hp2 (by omega)).to ?_
    rintro _ m2 ⟨eq, rfl⟩
    obtain rfl := eq.symm
    refine ⟨_, rfl, ?_⟩
    rw [if_pos hρ]
    exact ah_45 (d := d) (x1 := nI n) (x3 := nI i) hp hρ (runR false false v p (enP p ρ - snP p ρ) (snP p ρ) S) hE hP (fun m1 R1 => by
      rw [nI_1]
      exact ih (i + 1) (nxP p ρ) _ m1 (by omega) (nxP_lt hp) R1 hT) (enP p ρ - snP p ρ) (snP p ρ) S m (by omega) R rfl
theorem aheadC (hp : PlnOK v p) {n nr : Nat} (hn : n ≤ 200) (hnr : nr < rdP p) (w : WT m) (hc : HC 21 m g) (hE : EC m v) (hP : PlnC m p) (h11 : m.1 0 11 = nI nr) : Ct ad μX11_playAhead (d + 5) [.ref (ad 0), .int (nI n)] m (fun r m' => r = none ∧ WT m' ∧ Fx (RS [2, 5, 14]) m m' ∧ ∃ g', GE g' (ahG v p n nr g) ∧ HC 26 m' g') := by
  refine v_X11_playAhead (d := d + 4) ((copyC (d := d + 3) w SS_26 SS_21 (Or.inl (by decide)) hc).to ?_)
  rintro _ m1 ⟨rfl, w1, f1, h1⟩
  have e11 : m1.1 0 11 = nI nr := (f1.at (nRS (ρ := 44) rfl rfl)).trans h11
  rw [e11]
  exact ⟨rfl, ah_18 (d := d) (m0 := m) hp hn (rdsR false false v p n nr (g, [], 0, 0)) hE hP n 0 nr (g, [], 0, 0) m1 (by omega) hnr ⟨w1, Fx.tr Fx.rf f1 (RS_sub rfl), g, ⟨rfl, rfl, rfl⟩, h1⟩ rfl⟩
theorem totC (hb : SS b ρ) (h : HC b m g) (hE : EC m v) : Ct ad μX1_total (d + 2) [.ref (ad 3), .ref (ad b)] m (fun r m' => m' = m ∧ r = some (.int (totG v g))) := by
  have n8 := hE.2.2.1
  have a4 := hE.2.2.2.1
  have L : ∀ (j k : Nat), k + j = nE v → AW ad E0 μX1_total (d + 2) (fun r m' => m' = m ∧ r = some (.int (totG v g))) 4 [(0, .ref (ad 3)), (1, .ref (ad b)), (2, .int (toF g.1 (aE v) k)), (3, .int (nI k))] [] m := by
    intro j
    induction j with
    | zero =>
      intro k hk
      obtain rfl : k = nE v := hk
      exact g_X1_total_4 (d := d + 1) hb.1 ⟨fun _ => ⟨rfl, rfl⟩, fun c => absurd (by rw [hE.1]; exact (nI_leI (a := nE v) (b := nE v) (by omega) (by omega)).mpr (Nat.le_refl _)) c⟩
    | succ j ih =>
      intro k hk
      refine g_X1_total_4 (d := d + 1) hb.1 ⟨fun c => absurd (by rw [hE.1] at c; exact (nI_leI (a := nE v) (b := k) (by omega) (by omega)).mp c) (by omega), fun _ => ?_⟩
      rw [hE.2.1, nI_1]
      refine (sumC (d := d) hb h (s := k) (by omega) a4).to ?_
      rintro _ m1 ⟨eq, rfl⟩
      obtain rfl := eq.symm
      exact ⟨_, rfl, ih (k + 1) (by omega)⟩
  exact v_X1_total (d := d + 1) hb.1 (L (nE v) 0 (by omega))
theorem totM (h : HM (nE v) m g) (hE : EM m v) : Ct ad μX12_sumOfAll (d + 1) [.ref (ad 187)] m (fun r m' => m' = m ∧ r = some (.int (totG v g))) := by
  have n8 := hE.2.2.1
  have a4 := hE.2.2.2.1
  have L : ∀ (j k : Nat), k + j = nE v → AW ad E0 μX12_sumOfAll (d + 1) (fun r m' => m' = m ∧ r = some (.int (totG v g))) 4 [(0, .ref (ad 187)), (1, .int (toF g.1 (aE v) k)), (2, .int (nI k))] [] m := by
    intro j
    induction j with
    | zero =>
      intro k hk
      obtain rfl : k = nE v := hk
      exact g_X12_sumOfAll_4 (d := d) ⟨fun _ => ⟨rfl, rfl⟩, fun c => absurd (by rw [hE.1]; exact (nI_leI (a := nE v) (b := nE v) (by omega) (by omega)).mpr (Nat.le_refl _)) c⟩
    | succ j ih =>
      intro k hk
      refine g_X12_sumOfAll_4 (d := d) ⟨fun c => absurd (by rw [hE.1] at c; exact (nI_leI (a := nE v) (b := k) (by omega) (by omega)).mp c) (by omega), fun _ => (sumOf_ok hE.2.1 a4 (by omega)).to ?_⟩
      rintro _ m1 ⟨eq, rfl⟩
      obtain rfl := eq.symm
      rw [nI_1]
      have e : smF (m.1 188) (4 * k) (aE v) = smF g.1 (4 * k) (aE v) := smF_ch _ (fun i h1 h2 => h.1 i (by omega))
      rw [e]
      exact ⟨_, rfl, ih (k + 1) (by omega)⟩
  exact v_X12_sumOfAll (d := d) (L (nE v) 0 (by omega))
end AHC
/-! CALL: pays, with its answers -/
def payA (v : EV) (op : Option PLN) (nr : Nat) (x1 x2 : Int32) (g : GS) : Int32 :=
  match op with
  | none => -1
  | some p => if 0 ≤ x1.toInt ∧ x1.toInt < nE v then (if 0 ≤ x2.toInt ∧ x2.toInt ≤ 50 then (ahG v p x2.toNatClampNeg nr g).2.1 x1.toNatClampNeg - (ahG (setI v x1.toNatClampNeg (!(iE v x1.toNatClampNeg))) p x2.toNatClampNeg nr g).2.1 x1.toNatClampNeg else -1) else -1
def lwV (v : EV) (p : PLN) (n nr : Nat) (g : GS) (q : Nat) : Int32 := totG v (ahG (setL v 0 (nI q)) p n nr g)
def lwA (v : EV) (op : Option PLN) (nr : Nat) (x1 : Int32) (g : GS) : Int32 :=
  match op with
  | none => -1
  | some p => if 0 ≤ x1.toInt ∧ x1.toInt ≤ 50 then nI (bsF (lwV v p x1.toNatClampNeg nr g) 4) else -1
section PAY
variable {ad : Nat → Nat} {d nr : Nat} {m m' m1 m0 : Wm} {g : GS} {v : EV} {H : List GS} {p : PLN} {S : List Nat} {op : Option PLN} {x1 x2 : Int32}
theorem payA_1 (h : ¬ (0 ≤ x1.toInt ∧ x1.toInt < nE v)) : payA v op nr x1 x2 g = -1 := by
  cases op with
  | none => rfl
  | some p => exact if_neg h
theorem payA_2 (h : ¬ (0 ≤ x2.toInt ∧ x2.toInt ≤ 50)) : payA v op nr x1 x2 g = -1 := by
  cases op with
  | none => rfl
  | some p =>
    unfold payA
    dsimp only
    rw [if_neg h]
    split <;> rfl
theorem payA_3 (h : op = none) : payA v op nr x1 x2 g = -1 := by
  subst h
  rfl
theorem payA_4 {s k : Nat} (hs : s < nE v) (h8 : nE v ≤ 8) (hk : k ≤ 50) : payA v (some p) nr (nI s) (nI k) g = (ahG v p k nr g).2.1 s - (ahG (setI v s (!(iE v s))) p k nr g).2.1 s := by
  have ts : (nI s).toInt = s := nI_toInt (by omega)
  have tk : (nI k).toInt = k := nI_toInt (by omega)
  unfold payA
  dsimp only
  rw [if_pos (by omega), if_pos (by omega), nI_clamp (by omega), nI_clamp (by omega)]
theorem ill_xor {il : Nat → Bool} {s : Nat} (h : illC m il) (hs : s < 8) : ∀ j, j < 8 → bt ((m.1 3 5) ^^^ ((1 : Int32) <<< (nI s &&& 31))) j = updB il s (!(il s)) j := fun j hj => by
  rw [b_xor, bt_1shl (by omega) (by omega), h j hj]
  unfold updB
  by_cases q : j = s
  · rw [if_pos q, decide_eq_true q, q]; cases il s <;> rfl
  · rw [if_neg q, decide_eq_false q]; cases il j <;> rfl
theorem e_paysC (w : WT m) (hc : HC 21 m g) (ec : EC m v) (hO : PlO v m op) (h11 : m.1 0 11 = nI nr) (hnr : ∀ p, op = some p → nr < rdP p) : Ct ad μX11_pays (d + 6) [.ref (ad 0), .int x1, .int x2] m (fun r m' => WT m' ∧ Fx (RS [2, 5, 9, 14, 42]) m m' ∧ r = some (.int (payA v op nr x1 x2 g)) ∧ m'.1 3 5 = m.1 3 5) := by
  have n8 := ec.2.2.1
  have nn : payA v op nr x1 x2 g = -1 → WT m ∧ Fx (RS [2, 5, 9, 14, 42]) m m ∧ some (Value.int (-1)) = some (.int (payA v op nr x1 x2 g)) ∧ m.1 3 5 = m.1 3 5 := fun e => ⟨w, Fx.rf, by rw [e], rfl⟩
  refine v_X11_pays (d := d + 5) ((hasC ec.1 n8).to ?_)
  rintro _ m1 ⟨eq, v1, rfl, y1, y2⟩
  obtain rfl := eq.symm
  obtain ⟨P, q1, q2, q3⟩ := hO.c
  refine ⟨v1, rfl, fun q => nn (payA_1 (ninN_of (y1 q))), fun q => ⟨fun c => nn (payA_2 (fun z => ?_)), fun c0 => ⟨fun c => nn (payA_2 (fun z => ?_)), fun c50 => ⟨P, q1, q2, fun ne => ?_, fun e => nn (payA_3 (q3.mp e))⟩⟩⟩⟩
  · have := y_ltr (n := 0) rfl c; omega
  · have := y_ltl (n := 50) rfl c; omega
  have k0 := y_nltr (n := 0) rfl c0
  have k50 := y_nltl (n := 50) rfl c50
  obtain ⟨s, hs, rfl⟩ := (y2 q).of
  obtain ⟨k, hk, rfl⟩ := zn_of k0
  rw [nI_toInt hk] at k50
  cases op with
  | none => exact absurd (q3.mpr rfl) ne
  | some p =>
    obtain ⟨hp, hpC, -⟩ := hO
    have hn := hnr p rfl
    have V : vp_in (nI s) 8 := nat_in (by omega) (by decide)
    rw [payA_4 hs n8 (by omega)]
    refine (aheadC (d := d) hp (n := k) (by omega) hn w hc ec hpC h11).to ?_
    rintro _ m4 ⟨rfl, w4, f4, g4, hg4, h4⟩
    have a35 : m4.1 3 5 = m.1 3 5 := f4.at (nRS (ρ := 42) rfl rfl)
    have f5 : Fx (RS [42]) m4 (uI m4 3 5 ((m4.1 3 5) ^^^ ((1 : Int32) <<< (nI s &&& 31)))) := Fx.rf.i rfl
    have ec4 : EC m4 v := ec.fx f4 rfl
    have ec5 : EC (uI m4 3 5 ((m4.1 3 5) ^^^ ((1 : Int32) <<< (nI s &&& 31)))) (setI v s (!(iE v s))) := ec4.il hs (ill_xor ec4.2.2.2.2.2.1.1 (by omega))
    have w5 : WT (uI m4 3 5 ((m4.1 3 5) ^^^ ((1 : Int32) <<< (nI s &&& 31)))) := w4.n rfl
    refine ⟨rfl, V, (aheadC (d := d) (v := setI v s (!(iE v s))) (p := p) hp (n := k) (by omega) hn w5 ((hc.fx SS_21 f4 rfl).fx SS_21 f5 rfl) ec5 ((hpC.fx f4 rfl rfl).fx f5 rfl rfl) ((f5.at (nRS (ρ := 44) rfl rfl)).trans ((f4.at (nRS (ρ := 44) rfl rfl)).trans h11))).to ?_⟩
    rintro _ m5 ⟨rfl, w6, f6, g6, hg6, h6⟩
    have b35 : m5.1 3 5 = (m.1 3 5) ^^^ ((1 : Int32) <<< (nI s &&& 31)) := by
      rw [f6.at (a := 3) (k := 5) (nRS (ρ := 42) rfl rfl), u_eq, a35]
    have w7 : WT (uI m5 3 5 ((m5.1 3 5) ^^^ ((1 : Int32) <<< (nI s &&& 31)))) := w6.n rfl
    have F : Fx (RS [2, 5, 9, 14, 42]) m (uI m5 3 5 ((m5.1 3 5) ^^^ ((1 : Int32) <<< (nI s &&& 31)))) := (((Fx.tr Fx.rf f4 (RS_sub rfl)).i rfl).tr f6 (RS_sub rfl)).i rfl
    refine ⟨rfl, V, (s_X11_tell_ w7).to ?_⟩
    rintro _ m6 ⟨w8, f8, rfl⟩
    have e1 : m4.1 28 s = (ahG v p k nr g).2.1 s := (h4.2.1 s (by omega)).trans (congrFun hg4.2.1 s)
    have e2 : m6.1 28 s = (ahG (setI v s (!(iE v s))) p k nr g).2.1 s := (f8.at (nRS (ρ := 5) rfl rfl)).trans ((u_ne (by omega)).trans ((h6.2.1 s (by omega)).trans (congrFun hg6.2.1 s)))
    refine ⟨rfl, V, w8, F.tr f8 (RS_sub rfl), ?_, ?_⟩
    · rw [nI_clamp (by omega), e1, e2]
    · rw [f8.at (a := 3) (k := 5) (nRS (ρ := 42) rfl rfl), u_eq, b35, xor2]
theorem pbM {s k nr : Nat} (hp : PlnOK v p) (hk : k ≤ 50) (hnr : nr < rdP p) (w : WT m) (hm : HM (nE v) m g) (um : UnM (nE v) m H) (hl : H.length ≤ 20) (em : EM m v) (hP : PlnM m p) (h12 : m.1 187 12 = nI nr) (hL : HL (nE v) 202 0 m g) (hs : s < nE v) (h8 : nE v ≤ 8) :
    Ct ad μX12_pointsBehind (d + 172) [.ref (ad 187), .int (nI s), .int (nI k)] m (fun r m' => WT m' ∧ Fx (RS [22, 24, 28, 29, 31, 49]) m m' ∧ HM (nE v) m' g ∧ UnM (nE v) m' H ∧ HL (nE v) 202 0 m' g ∧ r = some (.int ((ahG v p k nr g).2.1 s))) := by
  refine v_X12_pointsBehind (d := d + 171) ?_
  rw [h12]
  refine (goRoundsM (d := d) (lk := false) (sv := false) (x3 := 0) (x4 := 0) hp (by decide) (by decide) (by omega) hnr w hm um hl em hP).to ?_
  rintro _ m1 ⟨rfl, w1, f1, hm1, um1, -⟩
  rw [rds_sv] at um1
  have um2 : UnM (nE v) m1 H := um1
  have hL1 : HL (nE v) 202 0 m1 g := hL.fx (ρ := 30) f1 (fun _ => rfl) rfl
  have e1 : (rdsR false false v p k nr (g, H, 0, 0)).1 = ahG v p k nr g := rds_1 _ _ _ _ rfl
  have e2 : m1.1 190 s = (ahG v p k nr g).2.1 s := by
    rw [hm1.2.1 s hs, e1]
  refine ⟨rfl, nat_in (by omega) (by decide), (bringH (x := 0) (na := 57) rfl (by decide) (by decide) w1 hL1 (by decide)).to ?_⟩
  rintro _ m2 ⟨rfl, w2, f2, hm2⟩
  rw [nI_clamp (by omega), e2]
  exact ⟨rfl, w2, f1.tr f2 (RS_sub rfl), hm2, um2.fx f2 rfl, hL1.fx (ρ := 30) f2 (fun _ => rfl) rfl, rfl⟩
/-- what the model's league is behind a call that gave it back -/
def gbQ (B : List Nat) (m : Wm) (g : GS) (v : EV) (H : List GS) (z : Int32) (r : Option Value) (m' : Wm) : Prop := r = some (.int z) ∧ WT m' ∧ Fx (RS B) m m' ∧ HM (nE v) m' g ∧ UnM (nE v) m' H ∧ EM m' v
set_option maxHeartbeats 1000000 in
theorem py_69 {s k nr : Nat} {b : Bool} {z3 : Int32} (hp : PlnOK v p) (hk : k ≤ 50) (hnr : nr < rdP p) (hs : s < nE v) (h8 : nE v ≤ 8) (hb : iE v s = b) (w : WT m) (f : Fx (RS [20, 22, 24, 26, 28, 29, 30, 31, 46, 49]) m1 m) (hm : HM (nE v) m g) (um : UnM (nE v) m H) (hl : H.length ≤ 20) (em : EM m v) (hP : PlnM m p) (h12 : m.1 187 12 = nI nr) (hL : HL (nE v) 202 0 m g) :
    AW ad E0 μX12_pays (d + 173) (gbQ [20, 22, 24, 26, 28, 29, 30, 31, 46, 49] m1 g v H (z3 - (ahG (setI v s (!b)) p k nr g).2.1 s)) 69 [(0, .ref (ad 187)), (1, .int (nI s)), (2, .int (nI k)), (3, .int z3)] [.int (if b = true then 0 else 1), .int (nI s), .ref (ad 189)] m := by
  have V : vp_in (nI s) 8 := nat_in (by omega) (by decide)
  have hv : vp_nar .boolean (if b = true then 0 else 1) = (if (!b) = true then 1 else 0) := by cases b <;> rfl
  refine g_X12_pays_69 (d := d + 172) (ne2 := 8) ly_189 ⟨V, ?_⟩
  rw [nI_clamp (by omega), hv]
  have w7 : WT (uI m 189 s (if (!b) = true then 1 else 0)) := w.n rfl
  have f7 : Fx (RS [46]) m (uI m 189 s (if (!b) = true then 1 else 0)) := Fx.rf.i rfl
  have em7 : EM (uI m 189 s (if (!b) = true then 1 else 0)) (setI v s (!b)) := em.il hs
  refine (pbM (d := d) (v := setI v s (!b)) (p := p) hp hk hnr w7 (hm.fx f7 rfl rfl) (um.fx f7 rfl) hl em7 (hP.fx f7 rfl rfl) ((f7.at (nRS (ρ := 52) rfl rfl)).trans h12) (hL.fx (ρ := 30) f7 (fun _ => rfl) rfl) hs h8).to ?_
  rintro _ m8 ⟨w8, f8, hm8, um8, hL8, rfl⟩
  generalize (ahG (setI v s (!b)) p k nr g).2.1 s = z4
  have e189 : ∀ j, m8.1 189 j = if j = s then (if (!b) = true then 1 else 0) else m.1 189 j := fun j => (f8.at (nRS (ρ := 46) rfl rfl)).trans (by
    by_cases q : j = s
    · rw [q, u_eq, if_pos rfl]
    · rw [u_ne (fun z => q z.2), if_neg q])
  have fin : ∀ y : Int32, vp_nar .boolean y = (if b = true then 1 else 0) → AW ad E0 μX12_pays (d + 173) (gbQ [20, 22, 24, 26, 28, 29, 30, 31, 46, 49] m1 g v H (z3 - z4)) 97 [(0, .ref (ad 187)), (3, .int z3), (4, .int z4)] [.int y, .int (nI s), .ref (ad 189)] m8 := fun y hy => by
    refine g_X12_pays_97 (d := d + 172) (ne2 := 8) ly_189 ⟨V, ?_⟩
    rw [nI_clamp (by omega), hy]
    have w9 : WT (uI (uI m8 189 s (if b = true then 1 else 0)) 187 16 (0 : Int32)) := (w8.n rfl).t rfl (by decide) (by decide)
    have f9 : Fx (RS [26, 46]) m8 (uI (uI m8 189 s (if b = true then 1 else 0)) 187 16 (0 : Int32)) := Fx.i (Fx.i Fx.rf rfl) rfl
    have e16 : ((uI (uI m8 189 s (if b = true then 1 else 0)) 187 16 (0 : Int32)).1 187 16).toInt = 0 := by
      rw [u_eq]
      rfl
    refine (s_X12_tell w9 (by omega)).to ?_
    rintro _ ma ⟨wa, fa, rfl, pa⟩
    have pa' : (ma.1 187 16).toInt = ((uI (uI m8 189 s (if b = true then 1 else 0)) 187 16 (0 : Int32)).1 187 16).toInt + 1 := pa
    refine ⟨rfl, (s_X12_tell wa (by omega)).to ?_⟩
    rintro _ mb ⟨wb, fb, rfl, -⟩
    have F0 : Fx (RS [20, 22, 24, 26, 28, 29, 30, 31, 46, 49]) m mb := ((((Fx.tr Fx.rf f7 (RS_sub rfl)).tr f8 (RS_sub rfl)).tr f9 (RS_sub rfl)).tr fa (RS_sub rfl)).tr fb (RS_sub rfl)
    refine ⟨rfl, rfl, wb, f.tr F0 (fun _ _ h => h), ((hm8.fx f9 rfl rfl).fx fa rfl rfl).fx fb rfl rfl, ((um8.fx f9 rfl).fx fa rfl).fx fb rfl, em.ke F0 rfl (fun k _ => F0.at (nRS (ρ := 47) rfl rfl)) (fun j hj => ?_)⟩
    rw [fb.at (a := 189) (k := j) (nRS (ρ := 46) rfl rfl), fa.at (a := 189) (k := j) (nRS (ρ := 46) rfl rfl), u_ne (by omega)]
    by_cases q : j = s
    · rw [q, u_eq, hb]
    · rw [u_ne (fun z => q z.2), e189 j, if_neg q]
      exact em.2.2.2.2.2.1 j hj
  refine ⟨z4, rfl, V, fun c => fin 0 ?_, fun c => fin 1 ?_⟩
  · rw [e189 s, if_pos rfl] at c
    cases b with
    | false => rfl
    | true => exact absurd rfl c
  · rw [e189 s, if_pos rfl] at c
    cases b with
    | false => exact absurd c (by decide)
    | true => rfl
set_option maxHeartbeats 1000000 in
theorem e_paysM {nr : Nat} (w1 : WT m1) (hm1 : HM (nE v) m1 g) (em1 : EM m1 v) (um1 : UnM (nE v) m1 H) (hl : H.length ≤ 20) (hO : PlO v m1 op) (n2 : m1.1 187 12 = nI nr) (hnr : ∀ p, op = some p → nr < rdP p) : Ct ad μX12_pays (d + 300) [.ref (ad 187), .int x1, .int x2] m1 (gbQ [20, 22, 24, 26, 28, 29, 30, 31, 46, 49] m1 g v H (payA v op nr x1 x2 g)) := by
  have n8 := em1.2.2.1
  have w0 : WT (uI m1 187 17 0) := w1.n rfl
  have f0 : Fx (RS [20]) m1 (uI m1 187 17 0) := Fx.rf.i rfl
  have em0 : EM (uI m1 187 17 0) v := em1.fx f0 rfl
  have hm0 : HM (nE v) (uI m1 187 17 0) g := hm1
  have um0 : UnM (nE v) (uI m1 187 17 0) H := um1.fx f0 rfl
  have hO0 : PlO v (uI m1 187 17 0) op := hO.fx f0 rfl rfl rfl rfl
  have nn : payA v op nr x1 x2 g = -1 → gbQ [20, 22, 24, 26, 28, 29, 30, 31, 46, 49] m1 g v H (payA v op nr x1 x2 g) (some (.int (-1))) (uI m1 187 17 0) := fun e => ⟨by rw [e], w0, Fx.tr Fx.rf f0 (RS_sub rfl), hm0, um0, em0⟩
  refine v_X12_pays (d := d + 299) ((sideM (d := d + 298) em0.1 n8).to ?_)
  rintro _ m2 ⟨eq, v3, rfl, y1, y2⟩
  obtain rfl := eq.symm
  refine ⟨v3, rfl, fun q => nn (payA_1 (ninN_of (y1 q))), fun q => (inM (x := x2) (lo := 0) (hi := 50) rfl rfl).to ?_⟩
  rintro _ m2 ⟨eq, v4, rfl, y3, y4⟩
  obtain rfl := eq.symm
  have z50 : (50 : Int32).toInt = 50 := rfl
  have z0 : (0 : Int32).toInt = 0 := rfl
  refine ⟨v4, rfl, fun q => nn (payA_2 (fun z => y3 q (by omega))), fun q2 => ⟨fun n11 => ?_, fun e11 => nn (payA_3 (hO0.mm.mp e11))⟩⟩
  obtain ⟨s, hs, rfl⟩ := (y2 q).of
  have y5 := y4 q2
  obtain ⟨k, hk, rfl⟩ := zn_of (x := x2) (by omega)
  rw [nI_toInt hk] at y5
  cases op with
  | none => exact absurd (hO0.mm.mpr rfl) n11
  | some p =>
    obtain ⟨hp, -, hpM⟩ := hO
    have hn := hnr p rfl
    rw [payA_4 hs n8 (by omega)]
    refine (layH (x := 0) (na := 57) (reg := 30) rfl (by decide) (by decide) (fun _ => rfl) (fun _ => rfl) w0 hm0 n8 (by decide)).to ?_
    rintro _ m3 ⟨rfl, w3, f3, hL3, -, -⟩
    have h12 : m3.1 187 12 = nI nr := (f3.at (nRS (ρ := 52) rfl rfl)).trans n2
    refine ⟨rfl, (pbM (d := d + 127) (s := s) (k := k) hp (by omega) hn w3 (hm0.fx f3 rfl rfl) (um0.fx f3 rfl) hl (em0.fx f3 rfl) ((hpM.fx f0 rfl rfl).fx f3 rfl rfl) h12 hL3 hs n8).to ?_⟩
    rintro _ m6 ⟨w6, f6, hm6, um6, hL6, rfl⟩
    have F6 : Fx (RS [20, 22, 24, 26, 28, 29, 30, 31, 46, 49]) m1 m6 := ((Fx.tr Fx.rf f0 (RS_sub rfl)).tr f3 (RS_sub rfl)).tr f6 (RS_sub rfl)
    have em6 : EM m6 v := (em0.fx f3 rfl).fx f6 rfl
    have hP6 : PlnM m6 p := ((hpM.fx f0 rfl rfl).fx f3 rfl rfl).fx f6 rfl rfl
    have h126 : m6.1 187 12 = nI nr := (f6.at (nRS (ρ := 52) rfl rfl)).trans h12
    have V : vp_in (nI s) 8 := nat_in (by omega) (by decide)
    refine ⟨_, rfl, V, fun cq => ?_, fun cq => ?_⟩
    · have hb : iE v s = true := by
        cases hb : iE v s with
        | true => rfl
        | false =>
          rw [nI_clamp (by omega), em6.2.2.2.2.2.1 s hs, hb] at cq
          exact absurd rfl cq
      rw [hb]
      exact py_69 (d := d + 127) (b := true) hp (by omega) hn hs n8 hb w6 F6 hm6 um6 hl em6 hP6 h126 hL6
    · have hb : iE v s = false := by
        cases hb : iE v s with
        | false => rfl
        | true =>
          rw [nI_clamp (by omega), em6.2.2.2.2.2.1 s hs, hb] at cq
          exact absurd cq (by decide)
      rw [hb]
      exact py_69 (d := d + 127) (b := false) hp (by omega) hn hs n8 hb w6 F6 hm6 um6 hl em6 hP6 h126 hL6
/-- where the plan is, beside the plan -/
theorem nx_of (nx : NxR m) (hO : PlO v m op) : ∃ nr, m.1 0 11 = nI nr ∧ m.1 187 12 = nI nr ∧ ∀ p, op = some p → nr < rdP p := by
  obtain ⟨nr, R, n1, n2, n3, n4, n5⟩ := nx
  refine ⟨nr, n1, n2, fun p hp => ?_⟩
  subst hp
  obtain ⟨hp, -, hpM⟩ := hO
  have h1 := hp.1
  have h2 := hp.2.1
  have : rdP p = R := (nI_eq (a := rdP p) (b := R) (by omega) (by omega)).mp (hpM.1.symm.trans n3)
  omega
theorem og_pays (c : Nat) (x1 x2 : Int32) : Both ad d μX11_pays μX12_pays [.int x1, .int x2] (InvK (KX KG c)) (InvK (KX KG (c + 1))) := fun m I => by
  obtain ⟨w, I1, ⟨g, v, H, kd⟩, kb⟩ := I
  obtain ⟨hc, hm, ec, em, uc, um, zb, zh, kp, nx⟩ := kd
  obtain ⟨op, hO⟩ := plO_of kb.1 ec
  obtain ⟨nr, n1, n2, hnr⟩ := nx_of nx hO
  refine (e_paysC (d := d + 294) (x1 := x1) (x2 := x2) w hc ec hO n1 hnr).to ?_
  rintro _ m1 ⟨w1, f1, rfl, h35⟩
  have ec1 : EC m1 v := ec.ke f1 rfl (fun k _ => f1.at (nRS (ρ := 43) rfl rfl)) h35
  refine ⟨_, rfl, (e_paysM (d := d) (x1 := x1) (x2 := x2) w1 (hm.fx f1 rfl rfl) (em.fx f1 rfl) (um.fx f1 rfl) uc.1 (hO.fx f1 rfl rfl rfl rfl) ((f1.at (nRS (ρ := 52) rfl rfl)).trans n2) hnr).to ?_⟩
  rintro r m2 ⟨hz, w2, f2, hm2, um2, em2⟩
  exact ⟨hz, w2, I1.f2 f1 f2 rfl rfl, ⟨g, v, H, (hc.fx SS_21 f1 rfl).fx SS_21 f2 rfl, hm2, ec1.fx f2 rfl, em2, (uc.fx f1 rfl rfl).fx f2 rfl rfl, um2, zb, zh, (kp.fx f1 rfl rfl).fx f2 rfl rfl, (nx.fx f1 rfl rfl rfl).fx f2 rfl rfl rfl⟩, KB.fd c f1 f2 kb rfl rfl⟩
end PAY
/-! CALL: laws, with its answers -/
section LWS
variable {ad : Nat → Nat} {d nr : Nat} {m m' m1 m0 : Wm} {g : GS} {v : EV} {H : List GS} {p : PLN} {S : List Nat} {op : Option PLN} {x1 : Int32}
theorem cmp_le {x y : Int32} : lg_cmp x.toInt64 y.toInt64 ≤ 0 ↔ x ≤ y := by
  have z0 : (0 : Int32).toInt = 0 := rfl
  have k : 0 < lg_cmp x.toInt64 y.toInt64 ↔ y < x := by rw [lg_cmp_gt, fa_wide_lt]
  constructor
  · intro h
    have h1 := z_le h
    exact (fa_le _ _).mpr (Int.not_lt.mp (fun q => by have := z_lt (k.mpr ((fa_lt _ _).mpr q)); omega))
  · intro h
    have h1 := z_le h
    exact (fa_le _ _).mpr (Int.not_lt.mp (fun q => by have := z_lt (k.mp ((fa_lt _ _).mpr q)); omega))
theorem EC.l0 {y x : Int32} (h : EC m (setL v 0 y)) : EC (uI m 4 0 x) (setL v 0 x) := by
  obtain ⟨q1, q2, q3, q4, q5, q6, q7⟩ := h
  have f : Fx (RS [43]) m (uI m 4 0 x) := Fx.rf.i rfl
  refine ⟨q1, q2, q3, q4, fun k hk => ?_, q6, q7.fx f rfl⟩
  have e := q5 k hk
  show (uI m 4 0 x).1 4 k = upd (lE v) 0 x k
  have e' : m.1 4 k = upd (lE v) 0 y k := e
  rw [upd_at] at e' ⊢
  by_cases q : k = 0
  · rw [if_pos q, q, u_eq]
  · rw [if_neg q, u_ne (fun z => q z.2), e', if_neg q]
theorem EC.lz (h : EC m (setL v 0 (lE v 0))) : EC m v := by
  obtain ⟨q1, q2, q3, q4, q5, q6, q7⟩ := h
  refine ⟨q1, q2, q3, q4, fun k hk => ?_, q6, q7⟩
  have e' : m.1 4 k = upd (lE v) 0 (lE v 0) k := q5 k hk
  rw [e', upd_at]
  by_cases q : k = 0
  · rw [if_pos q, q]
  · rw [if_neg q]
theorem EC.la (h : EC m v) : EC m (setL v 0 (lE v 0)) := by
  obtain ⟨q1, q2, q3, q4, q5, q6, q7⟩ := h
  refine ⟨q1, q2, q3, q4, fun k hk => ?_, q6, q7⟩
  show m.1 4 k = upd (lE v) 0 (lE v 0) k
  rw [q5 k hk, upd_at]
  by_cases q : k = 0
  · rw [if_pos q, q]
  · rw [if_neg q]
theorem lwA_2 (h : ¬ (0 ≤ x1.toInt ∧ x1.toInt ≤ 50)) : lwA v op nr x1 g = -1 := by
  cases op with
  | none => rfl
  | some p => exact if_neg h
theorem lwA_3 (h : op = none) : lwA v op nr x1 g = -1 := by
  subst h
  rfl
theorem lwA_4 {k : Nat} (hk : k ≤ 50) : lwA v (some p) nr (nI k) g = nI (bsF (lwV v p k nr g) 4) := by
  have tk : (nI k).toInt = k := nI_toInt (by omega)
  unfold lwA
  dsimp only
  rw [if_pos (by omega), nI_clamp (by omega)]
def lzQ (v : EV) (m0 : Wm) (z : Int32) (r : Option Value) (m' : Wm) : Prop := WT m' ∧ Fx (RS [2, 5, 9, 14, 43]) m0 m' ∧ r = some (.int z) ∧ EC m' v
set_option maxHeartbeats 1000000 in
theorem lc_37 {k : Nat} (hp : PlnOK v p) (hk : k ≤ 50) (hnr : nr < rdP p) : ∀ (j q : Nat) (m1 : Wm) (y : Int32), q + j = 4 → WT m1 → Fx (RS [2, 5, 9, 14, 43]) m0 m1 → HC 21 m1 g → EC m1 (setL v 0 y) → PlnC m1 p → m1.1 0 11 = nI nr → (∀ i, i < q → m1.2.1 150 i = (lwV v p k nr g i).toInt64) →
    AW ad E0 μX11_laws (d + 6) (lzQ v m0 (nI (bsF (lwV v p k nr g) 4))) 37 [(0, .ref (ad 0)), (1, .int (nI k)), (2, .int (lE v 0)), (3, .int (nI (bsF (lwV v p k nr g) q))), (4, .int (nI q))] [] m1 := by
  have e00 : (0 : Int32).toNatClampNeg = 0 := rfl
  intro j
  induction j with
  | zero =>
    intro q m1 y hq w1 f1 hc ec hP h11 hr
    obtain rfl : q = 4 := hq
    refine g_X11_laws_37 (d := d + 5) ⟨fun _ => ?_, fun c => absurd ((le_l 4 4 rfl (by decide) (by omega)).mpr (Nat.le_refl _)) c⟩
    rw [e00]
    have f2 : Fx (RS [9]) (uI m1 4 0 (lE v 0)) (uI (uI m1 4 0 (lE v 0)) 0 18 (4 : Int32)) := Fx.rf.i rfl
    exact ⟨(w1.n rfl).t rfl (by decide) (by decide), (f1.i rfl).i rfl, rfl, (EC.fx (EC.lz ec.l0) f2 rfl)⟩
  | succ j ih =>
    intro q m1 y hq w1 f1 hc ec hP h11 hr
    refine g_X11_laws_37 (d := d + 5) ⟨fun c => absurd ((le_l 4 4 rfl (by decide) (by omega)).mp c) (by omega), fun _ => ?_⟩
    rw [e00]
    have f7 : Fx (RS [43]) m1 (uI m1 4 0 (nI q)) := Fx.rf.i rfl
    have w7 : WT (uI m1 4 0 (nI q)) := w1.n rfl
    have ec7 : EC (uI m1 4 0 (nI q)) (setL v 0 (nI q)) := ec.l0
    refine (aheadC (d := d) (v := setL v 0 (nI q)) (p := p) hp (n := k) (by omega) hnr w7 (hc.fx SS_21 f7 rfl) ec7 (hP.fx f7 rfl rfl) ((f7.at (nRS (ρ := 44) rfl rfl)).trans h11)).to ?_
    rintro _ m2 ⟨rfl, w2, f2, g', hg, h26⟩
    have ec2 := ec7.fx f2 rfl
    refine ⟨rfl, (totC (d := d + 3) SS_26 h26 ec2).to ?_⟩
    rintro _ m3 ⟨eq, rfl⟩
    obtain rfl := eq.symm
    have e : totG (setL v 0 (nI q)) g' = lwV v p k nr g q := totG_E hg
    have hc2 := (hc.fx SS_21 f7 rfl).fx SS_21 f2 rfl
    have hP2 := (hP.fx f7 rfl rfl).fx f2 rfl rfl
    have h112 : m2.1 0 11 = nI nr := (f2.at (nRS (ρ := 44) rfl rfl)).trans ((f7.at (nRS (ρ := 44) rfl rfl)).trans h11)
    have F2 : Fx (RS [2, 5, 9, 14, 43]) m0 m2 := (f1.i rfl).tr f2 (RS_sub rfl)
    have hr2 : ∀ i, i < q → m2.2.1 150 i = (lwV v p k nr g i).toInt64 := fun i hi => (f2 150 i (nRS (ρ := 9) rfl rfl)).2.1.trans (hr i hi)
    have hb : bsF (lwV v p k nr g) q ≤ q := by
      by_cases h0 : q = 0
      · subst h0; exact Nat.le_refl _
      · exact Nat.le_of_lt (bsF_lt (by omega) q (Nat.le_refl _))
    rw [e, nI_1, nI_clamp (by omega), nI_clamp (by omega)]
    generalize hF : lwV v p k nr g = F at hr2 hb ih ⊢
    have e150 : ∀ i, i ≤ q → (uL m2 150 q (F q).toInt64).2.1 150 i = (F i).toInt64 := fun i hi => by
      by_cases z : i = q
      · rw [z]; exact if_pos ⟨rfl, rfl⟩
      · exact (if_neg (fun y => z y.2)).trans (hr2 i (by omega))
    have fL : Fx (RS [9]) m2 (uL m2 150 q (F q).toInt64) := Fx.rf.l rfl
    have N := ih (q + 1) (uL m2 150 q (F q).toInt64) (nI q) (by omega) w2.l (F2.l rfl) (hc2.fx SS_21 fL rfl) (ec2.fx fL rfl) (hP2.fx fL rfl rfl) ((fL.at (nRS (ρ := 44) rfl rfl)).trans h112) (fun i hi => e150 i (by omega))
    refine ⟨_, rfl, nat_in (by omega) (by decide), nat_in (by omega) (by decide), nat_in (by omega) (by decide), ?_⟩
    rw [e150 q (Nat.le_refl _), e150 _ hb]
    refine ⟨fun c => ?_, fun c => ?_⟩
    · rw [bsF_p (f := F) (cmp_le.mp c)] at N
      exact N
    · rw [bsF_n (f := F) (fun z => c (cmp_le.mpr z))] at N
      exact N
theorem e_lawsV (w : WT m) (hc : HC 21 m g) (ec : EC m v) (hO : PlO v m op) (h11 : m.1 0 11 = nI nr) (hnr : ∀ p, op = some p → nr < rdP p) : Ct ad μX11_laws (d + 6) [.ref (ad 0), .int x1] m (lzQ v m (lwA v op nr x1 g)) := by
  have e00 : (0 : Int32).toNatClampNeg = 0 := rfl
  have nn : lwA v op nr x1 g = -1 → lzQ v m (lwA v op nr x1 g) (some (.int (-1))) m := fun e => ⟨w, Fx.rf, by rw [e], ec⟩
  obtain ⟨P, q1, q2, q3⟩ := hO.c
  refine v_X11_laws (d := d + 5) ⟨fun c => nn (lwA_2 (fun z => ?_)), fun c0 => ⟨fun c => nn (lwA_2 (fun z => ?_)), fun c50 => ⟨P, q1, q2, fun ne => ?_, fun e => nn (lwA_3 (q3.mp e))⟩⟩⟩
  · have := y_ltr (n := 0) rfl c; omega
  · have := y_ltl (n := 50) rfl c; omega
  have k0 := y_nltr (n := 0) rfl c0
  have k50 := y_nltl (n := 50) rfl c50
  obtain ⟨k, hk, rfl⟩ := zn_of k0
  rw [nI_toInt hk] at k50
  cases op with
  | none => exact absurd (q3.mpr rfl) ne
  | some p =>
    obtain ⟨hp, hpC, -⟩ := hO
    rw [e00, ec.2.2.2.2.1 0 (by decide), lwA_4 (by omega)]
    exact lc_37 (d := d) (m0 := m) hp (by omega) (hnr p rfl) 4 0 m (lE v 0) rfl w Fx.rf hc ec.la hpC h11 (fun i hi => absurd hi (Nat.not_lt_zero i))
set_option maxHeartbeats 1000000 in
theorem lw_55 {k : Nat} (hp : PlnOK v p) (hk : k ≤ 50) (hnr : nr < rdP p) (h8 : nE v ≤ 8) (hl : H.length ≤ 20) : ∀ (j q : Nat) (m1 : Wm) (y x3 x4 : Int32), q + j = 4 → (1 ≤ q → x3 = nI (bsF (lwV v p k nr g) q) ∧ x4 = lwV v p k nr g (bsF (lwV v p k nr g) q)) → WT m1 → Fx (RS [20, 22, 24, 26, 28, 29, 30, 31, 47, 49]) m0 m1 → HM (nE v) m1 g → UnM (nE v) m1 H → HL (nE v) 202 0 m1 g → EM m1 (setL v 0 y) → PlnM m1 p → m1.1 187 12 = nI nr → (m1.1 187 16).toInt = q →
    AW ad E0 μX12_laws (d + 172) (gbQ [20, 22, 24, 26, 28, 29, 30, 31, 47, 49] m0 g v H (nI (bsF (lwV v p k nr g) 4))) 55 [(0, .ref (ad 187)), (1, .int (nI k)), (2, .int (lE v 0)), (3, .int x3), (4, .int x4), (5, .int (nI q))] [] m1 := by
  have e00 : (0 : Int32).toNatClampNeg = 0 := rfl
  intro j
  induction j with
  | zero =>
    intro q m1 y x3 x4 hq hx w1 f1 hm um hL em hP h12 h16
    obtain rfl : q = 4 := hq
    refine g_X12_laws_55 (d := d + 171) ⟨fun _ => ?_, fun c => absurd ((le_l 4 4 rfl (by decide) (by omega)).mpr (Nat.le_refl _)) c⟩
    rw [e00]
    have f2 : Fx (RS [47]) m1 (uI m1 193 0 (lE v 0)) := Fx.rf.i rfl
    exact ⟨by rw [(hx (by decide)).1], w1.n rfl, f1.tr f2 (RS_sub rfl), hm.fx f2 rfl rfl, um.fx f2 rfl, em.l0.lz⟩
  | succ j ih =>
    intro q m1 y x3 x4 hq hx w1 f1 hm um hL em hP h12 h16
    refine g_X12_laws_55 (d := d + 171) ⟨fun c => absurd ((le_l 4 4 rfl (by decide) (by omega)).mp c) (by omega), fun _ => ?_⟩
    rw [e00]
    have f2 : Fx (RS [47]) m1 (uI m1 193 0 (nI q)) := Fx.rf.i rfl
    have w2 : WT (uI m1 193 0 (nI q)) := w1.n rfl
    have em2 : EM (uI m1 193 0 (nI q)) (setL v 0 (nI q)) := em.l0
    have hm2 := hm.fx f2 rfl rfl
    have um2 := um.fx f2 rfl
    have hL2 : HL (nE v) 202 0 (uI m1 193 0 (nI q)) g := hL.fx (ρ := 30) f2 (fun _ => rfl) rfl
    have hP2 := hP.fx f2 rfl rfl
    have h122 : (uI m1 193 0 (nI q)).1 187 12 = nI nr := h12
    have h162 : ((uI m1 193 0 (nI q)).1 187 16).toInt = q := h16
    rw [h122]
    have F2 := f1.tr f2 (RS_sub (l2 := [20, 22, 24, 26, 28, 29, 30, 31, 47, 49]) rfl)
    generalize uI m1 193 0 (nI q) = m2 at w2 em2 hm2 um2 hL2 hP2 h122 h162 F2 ⊢
    refine (goRoundsM (d := d) (v := setL v 0 (nI q)) (p := p) (lk := false) (sv := false) (x3 := 0) (x4 := 0) hp (by decide) (by decide) (by omega) hnr w2 hm2 um2 hl em2 hP2).to ?_
    rintro _ m3 ⟨rfl, w3, f3, hm3, um3, -⟩
    rw [rds_sv] at um3
    have um3' : UnM (nE v) m3 H := um3
    refine ⟨rfl, (totM (d := d + 170) (v := setL v 0 (nI q)) hm3 (em2.fx f3 rfl)).to ?_⟩
    rintro _ m4 ⟨eq, rfl⟩
    obtain rfl := eq.symm
    have e1 : (rdsR false false (setL v 0 (nI q)) p k nr (g, H, 0, 0)).1 = ahG (setL v 0 (nI q)) p k nr g := rds_1 _ _ _ _ rfl
    have e2 : totG (setL v 0 (nI q)) (rdsR false false (setL v 0 (nI q)) p k nr (g, H, 0, 0)).1 = lwV v p k nr g q := by
      rw [e1]
      rfl
    rw [e2]
    have hL4 : HL (nE v) 202 0 m3 g := hL2.fx (ρ := 30) f3 (fun _ => rfl) rfl
    refine ⟨_, rfl, (bringH (x := 0) (na := 57) rfl (by decide) (by decide) w3 hL4 (by decide)).to ?_⟩
    rintro _ m5 ⟨rfl, w5, f5, hm5⟩
    have e16 : (m5.1 187 16).toInt = q := by
      rw [f5.at (a := 187) (k := 16) (nRS (ρ := 26) rfl rfl), f3.at (a := 187) (k := 16) (nRS (ρ := 26) rfl rfl)]
      exact h162
    refine ⟨rfl, (s_X12_tell w5 (by omega)).to ?_⟩
    rintro _ m6 ⟨w6, f6, rfl, p6⟩
    have p6' : (m6.1 187 16).toInt = (m5.1 187 16).toInt + 1 := p6
    have F6 := ((F2.tr f3 (RS_sub rfl)).tr f5 (RS_sub rfl)).tr f6 (RS_sub rfl)
    have N : ∀ y3 y4 : Int32, y3 = nI (bsF (lwV v p k nr g) (q + 1)) → y4 = lwV v p k nr g (bsF (lwV v p k nr g) (q + 1)) → AW ad E0 μX12_laws (d + 172) (gbQ [20, 22, 24, 26, 28, 29, 30, 31, 47, 49] m0 g v H (nI (bsF (lwV v p k nr g) 4))) 55 [(0, .ref (ad 187)), (1, .int (nI k)), (2, .int (lE v 0)), (3, .int y3), (4, .int y4), (5, .int (nI (q + 1)))] [] m6 := fun y3 y4 h3 h4 => by
      refine ih (q + 1) m6 (nI q) y3 y4 (by omega) (fun _ => ⟨h3, h4⟩) w6 F6 (hm5.fx f6 rfl rfl) ((um3'.fx f5 rfl).fx f6 rfl) ((hL4.fx (ρ := 30) f5 (fun _ => rfl) rfl).fx (ρ := 30) f6 (fun _ => rfl) rfl) (((em2.fx f3 rfl).fx f5 rfl).fx f6 rfl) (((hP2.fx f3 rfl rfl).fx f5 rfl rfl).fx f6 rfl rfl) ?_ (by omega)
      rw [f6.at (a := 187) (k := 12) (nRS (ρ := 52) rfl rfl), f5.at (a := 187) (k := 12) (nRS (ρ := 52) rfl rfl), f3.at (a := 187) (k := 12) (nRS (ρ := 52) rfl rfl)]
      exact h122
    rw [nI_1]
    refine ⟨rfl, fun c => ?_, fun c => ?_⟩
    · have c0 := (l_le 0 0 rfl (by decide) (by omega)).mp c
      obtain rfl : q = 0 := by omega
      exact N _ _ (by rw [bsF_1]) (by rw [bsF_1])
    · have c0 : 1 ≤ q := Nat.pos_of_ne_zero (fun z => c ((l_le 0 0 rfl (by decide) (by omega)).mpr (by omega)))
      obtain ⟨h3, h4⟩ := hx c0
      rw [h3, h4]
      refine ⟨fun c2 => ?_, fun c2 => ?_⟩
      · have c3 : ¬ lwV v p k nr g q ≤ lwV v p k nr g (bsF (lwV v p k nr g) q) := fun z => by
          have := z_lt c2
          have := z_le z
          omega
        exact N _ _ (by rw [bsF_n c3]) (by rw [bsF_n c3])
      · have c3 : lwV v p k nr g q ≤ lwV v p k nr g (bsF (lwV v p k nr g) q) := (fa_le _ _).mpr (z_nlt c2)
        exact N _ _ (by rw [bsF_p c3]) (by rw [bsF_p c3])
set_option maxHeartbeats 1000000 in
theorem e_lawsW (w1 : WT m1) (hm1 : HM (nE v) m1 g) (em1 : EM m1 v) (um1 : UnM (nE v) m1 H) (hl : H.length ≤ 20) (hO : PlO v m1 op) (n2 : m1.1 187 12 = nI nr) (hnr : ∀ p, op = some p → nr < rdP p) : Ct ad μX12_laws (d + 300) [.ref (ad 187), .int x1] m1 (gbQ [20, 22, 24, 26, 28, 29, 30, 31, 47, 49] m1 g v H (lwA v op nr x1 g)) := by
  have n8 := em1.2.2.1
  have e00 : (0 : Int32).toNatClampNeg = 0 := rfl
  have w0 : WT (uI m1 187 17 0) := w1.n rfl
  have f0 : Fx (RS [20]) m1 (uI m1 187 17 0) := Fx.rf.i rfl
  have em0 : EM (uI m1 187 17 0) v := em1.fx f0 rfl
  have hm0 : HM (nE v) (uI m1 187 17 0) g := hm1
  have um0 : UnM (nE v) (uI m1 187 17 0) H := um1.fx f0 rfl
  have hO0 : PlO v (uI m1 187 17 0) op := hO.fx f0 rfl rfl rfl rfl
  have nn : lwA v op nr x1 g = -1 → gbQ [20, 22, 24, 26, 28, 29, 30, 31, 47, 49] m1 g v H (lwA v op nr x1 g) (some (.int (-1))) (uI m1 187 17 0) := fun e => ⟨by rw [e], w0, Fx.tr Fx.rf f0 (RS_sub rfl), hm0, um0, em0⟩
  have z50 : (50 : Int32).toInt = 50 := rfl
  have z0 : (0 : Int32).toInt = 0 := rfl
  refine v_X12_laws (d := d + 299) ((inM (x := x1) (lo := 0) (hi := 50) rfl rfl).to ?_)
  rintro _ m2 ⟨eq, v4, rfl, y3, y4⟩
  obtain rfl := eq.symm
  refine ⟨v4, rfl, fun q => nn (lwA_2 (fun z => y3 q (by omega))), fun q2 => ⟨fun n11 => ?_, fun e11 => nn (lwA_3 (hO0.mm.mp e11))⟩⟩
  have y5 := y4 q2
  obtain ⟨k, hk, rfl⟩ := zn_of (x := x1) (by omega)
  rw [nI_toInt hk] at y5
  cases op with
  | none => exact absurd (hO0.mm.mpr rfl) n11
  | some p =>
    obtain ⟨hp, -, hpM⟩ := hO
    have e193 : (uI m1 187 17 0).1 193 0 = lE v 0 := em0.2.2.2.2.1 0 (by decide)
    rw [e00, e193, lwA_4 (by omega)]
    refine (layH (x := 0) (na := 57) (reg := 30) rfl (by decide) (by decide) (fun _ => rfl) (fun _ => rfl) w0 hm0 n8 (by decide)).to ?_
    rintro _ m3 ⟨rfl, w3, f3, hL3, -, -⟩
    have w4 : WT (uI m3 187 16 (0 : Int32)) := w3.t rfl (by decide) (by decide)
    have f4 : Fx (RS [26]) m3 (uI m3 187 16 (0 : Int32)) := Fx.rf.i rfl
    have F4 : Fx (RS [20, 22, 24, 26, 28, 29, 30, 31, 47, 49]) m1 (uI m3 187 16 (0 : Int32)) := ((Fx.tr Fx.rf f0 (RS_sub rfl)).tr f3 (RS_sub rfl)).tr f4 (RS_sub rfl)
    refine ⟨rfl, lw_55 (d := d + 128) (m0 := m1) (k := k) (nr := nr) hp (by omega) (hnr p rfl) n8 hl 4 0 _ (lE v 0) 0 0 rfl (fun z => absurd z (by decide)) w4 F4 ((hm0.fx f3 rfl rfl).fx f4 rfl rfl) ((um0.fx f3 rfl).fx f4 rfl) (hL3.fx (ρ := 30) f4 (fun _ => rfl) rfl) ((em0.fx f3 rfl).fx f4 rfl).la (((hpM.fx f0 rfl rfl).fx f3 rfl rfl).fx f4 rfl rfl) ((f4.at (nRS (ρ := 52) rfl rfl)).trans ((f3.at (nRS (ρ := 52) rfl rfl)).trans n2)) ?_⟩
    rw [u_eq]
    rfl
theorem og_laws (c : Nat) (x1 : Int32) : Both ad d μX11_laws μX12_laws [.int x1] (InvK (KX KG c)) (InvK (KX KG (c + 1))) := fun m I => by
  obtain ⟨w, I1, ⟨g, v, H, kd⟩, kb⟩ := I
  obtain ⟨hc, hm, ec, em, uc, um, zb, zh, kp, nx⟩ := kd
  obtain ⟨pl, lw, kq⟩ := kb
  obtain ⟨op, hO⟩ := plO_of pl ec
  obtain ⟨nr, n1, n2, hnr⟩ := nx_of nx hO
  refine (e_lawsV (d := d + 294) (x1 := x1) w hc ec hO n1 hnr).to ?_
  rintro _ m1 ⟨w1, f1, rfl, ec1⟩
  refine ⟨_, rfl, (e_lawsW (d := d) (x1 := x1) w1 (hm.fx f1 rfl rfl) (em.fx f1 rfl) (um.fx f1 rfl) uc.1 (hO.fx f1 rfl rfl rfl rfl) ((f1.at (nRS (ρ := 52) rfl rfl)).trans n2) hnr).to ?_⟩
  rintro r m2 ⟨hz, w2, f2, hm2, um2, em2⟩
  have ec2 := ec1.fx f2 rfl
  exact ⟨hz, w2, I1.f2 f1 f2 rfl rfl, ⟨g, v, H, (hc.fx SS_21 f1 rfl).fx SS_21 f2 rfl, hm2, ec2, em2, (uc.fx f1 rfl rfl).fx f2 rfl rfl, um2, zb, zh, (kp.fx f1 rfl rfl).fx f2 rfl rfl, (nx.fx f1 rfl rfl rfl).fx f2 rfl rfl rfl⟩, (pl.fx f1 rfl rfl rfl rfl rfl).fx f2 rfl rfl rfl rfl rfl, fun k hk => (ec2.2.2.2.2.1 k hk).trans (em2.2.2.2.2.1 k hk).symm, ((kq.fx f1 rfl rfl rfl).fx f2 rfl rfl rfl).up⟩
end LWS
end
section
/-! CALL: seen -/
section SEE
variable {ad : Nat → Nat} {d n q : Nat} {m : Wm} {x1 x2 x3 : Int32} {K : Wm → Prop}
def SeP (n q : Nat) (x1 x2 x3 : Int32) : Prop := Two n x1 x2 ∧ 0 ≤ x3.toInt ∧ x3.toInt ≤ 2 ∧ q < 12
theorem e_seenC (w : WT m) (hn : m.1 3 3 = nI n) (n8 : n ≤ 8) (hq : m.1 0 15 = nI q) (q12 : q ≤ 12) : Ct ad μX11_seen (d + 2) [.ref (ad 0), .int x1, .int x2, .int x3] m (fun r m' => WT m' ∧ Fx (RS [8, 56]) m m' ∧ ((¬ SeP n q x1 x2 x3 ∧ r = some (.int (-1)) ∧ m' = m) ∨ (SeP n q x1 x2 x3 ∧ r = some (.int (nI (q + 1))) ∧ m'.1 0 15 = nI (q + 1) ∧ (∀ i, i < q → m'.1 146 i = m.1 146 i ∧ m'.1 147 i = m.1 147 i ∧ m'.1 148 i = m.1 148 i) ∧ m'.1 146 q = x1 ∧ m'.1 147 q = x2 ∧ m'.1 148 q = x3))) := by
  have no : ¬ SeP n q x1 x2 x3 → WT m ∧ Fx (RS [8, 56]) m m ∧ ((¬ SeP n q x1 x2 x3 ∧ some (Value.int (-1)) = some (.int (-1)) ∧ m = m) ∨ (SeP n q x1 x2 x3 ∧ some (Value.int (-1)) = some (.int (nI (q + 1))) ∧ m.1 0 15 = nI (q + 1) ∧ (∀ i, i < q → m.1 146 i = m.1 146 i ∧ m.1 147 i = m.1 147 i ∧ m.1 148 i = m.1 148 i) ∧ m.1 146 q = x1 ∧ m.1 147 q = x2 ∧ m.1 148 q = x3)) := fun h => ⟨w, Fx.rf, Or.inl ⟨h, rfl, rfl⟩⟩
  refine v_X11_seen (d := d + 1) ((meetC (d := d) hn n8).to ?_)
  rintro _ m1 ⟨eq, v1, rfl, y1, y2⟩
  obtain rfl := eq.symm
  have z2 : (2 : Int32).toInt = 2 := rfl
  refine ⟨v1, rfl, fun c => no (fun z => y1 c z.1), fun c => ⟨fun c2 => no (fun z => ?_), fun c2 => ⟨fun c3 => no (fun z => ?_), fun c3 => ⟨fun c4 => ?_, fun c4 => no (fun z => c4 ?_)⟩⟩⟩⟩
  · have := y_ltr (n := 0) rfl c2
    have := z.2.1
    omega
  · have := z_lt c3
    have := z.2.2.1
    omega
  · have k2 := y_nltr (n := 0) rfl c2
    have k3 := z_nlt c3
    rw [hq] at c4
    have k4 := (l_lt 12 12 rfl (by decide) (by omega)).mp c4
    have P : SeP n q x1 x2 x3 := ⟨y2 c, k2, by omega, k4⟩
    obtain ⟨p1, p2⟩ := (y2 c).1
    obtain ⟨p3, p4⟩ := (y2 c).2.1
    have V : vp_in (nI q) 12 := nat_in k4 (by decide)
    have go : ∀ m', m' = uI (uI (uI (uI m 146 q x1) 147 q x2) 148 q x3) 0 15 (nI (q + 1)) → WT m' ∧ Fx (RS [8, 56]) m m' ∧ ((¬ SeP n q x1 x2 x3 ∧ some (Value.int (nI (q + 1))) = some (.int (-1)) ∧ m' = m) ∨ (SeP n q x1 x2 x3 ∧ some (Value.int (nI (q + 1))) = some (.int (nI (q + 1))) ∧ m'.1 0 15 = nI (q + 1) ∧ (∀ i, i < q → m'.1 146 i = m.1 146 i ∧ m'.1 147 i = m.1 147 i ∧ m'.1 148 i = m.1 148 i) ∧ m'.1 146 q = x1 ∧ m'.1 147 q = x2 ∧ m'.1 148 q = x3)) := fun m' e => by
      subst e
      have t1 : (nI (q + 1)).toInt = (q + 1 : Nat) := nI_toInt (by omega)
      refine ⟨(((w.t rfl (by omega) (by omega)).t rfl (by omega) (by omega)).n rfl).t rfl (by omega) (by omega), Fx.i (Fx.i (Fx.i (Fx.i Fx.rf rfl) rfl) rfl) rfl, Or.inr ⟨P, rfl, u_eq, fun i hi => ⟨?_, ?_, ?_⟩, ?_, ?_, ?_⟩⟩
      · exact (u_ne (by omega)).trans ((u_ne (by omega)).trans ((u_ne (by omega)).trans (u_ne (by omega))))
      · exact (u_ne (by omega)).trans ((u_ne (by omega)).trans ((u_ne (by omega)).trans (u_ne (by omega))))
      · exact (u_ne (by omega)).trans ((u_ne (by omega)).trans ((u_ne (by omega)).trans (u_ne (by omega))))
      · exact (u_ne (by omega)).trans ((u_ne (by omega)).trans ((u_ne (by omega)).trans u_eq))
      · exact (u_ne (by omega)).trans ((u_ne (by omega)).trans u_eq)
      · exact (u_ne (by omega)).trans u_eq
    have key : ∀ y : Int32, y = nI q → vp_in y 12 ∧ vp_in y 12 ∧ vp_in y 12 ∧ (WT (uI (uI (uI (uI m 146 y.toNatClampNeg x1) 147 y.toNatClampNeg x2) 148 y.toNatClampNeg x3) 0 15 (y + (1 : Int32))) ∧ Fx (RS [8, 56]) m (uI (uI (uI (uI m 146 y.toNatClampNeg x1) 147 y.toNatClampNeg x2) 148 y.toNatClampNeg x3) 0 15 (y + (1 : Int32))) ∧ ((¬ SeP n q x1 x2 x3 ∧ some (Value.int (y + (1 : Int32))) = some (.int (-1)) ∧ (uI (uI (uI (uI m 146 y.toNatClampNeg x1) 147 y.toNatClampNeg x2) 148 y.toNatClampNeg x3) 0 15 (y + (1 : Int32))) = m) ∨ (SeP n q x1 x2 x3 ∧ some (Value.int (y + (1 : Int32))) = some (.int (nI (q + 1))) ∧ (uI (uI (uI (uI m 146 y.toNatClampNeg x1) 147 y.toNatClampNeg x2) 148 y.toNatClampNeg x3) 0 15 (y + (1 : Int32))).1 0 15 = nI (q + 1) ∧ (∀ i, i < q → (uI (uI (uI (uI m 146 y.toNatClampNeg x1) 147 y.toNatClampNeg x2) 148 y.toNatClampNeg x3) 0 15 (y + (1 : Int32))).1 146 i = m.1 146 i ∧ (uI (uI (uI (uI m 146 y.toNatClampNeg x1) 147 y.toNatClampNeg x2) 148 y.toNatClampNeg x3) 0 15 (y + (1 : Int32))).1 147 i = m.1 147 i ∧ (uI (uI (uI (uI m 146 y.toNatClampNeg x1) 147 y.toNatClampNeg x2) 148 y.toNatClampNeg x3) 0 15 (y + (1 : Int32))).1 148 i = m.1 148 i) ∧ (uI (uI (uI (uI m 146 y.toNatClampNeg x1) 147 y.toNatClampNeg x2) 148 y.toNatClampNeg x3) 0 15 (y + (1 : Int32))).1 146 q = x1 ∧ (uI (uI (uI (uI m 146 y.toNatClampNeg x1) 147 y.toNatClampNeg x2) 148 y.toNatClampNeg x3) 0 15 (y + (1 : Int32))).1 147 q = x2 ∧ (uI (uI (uI (uI m 146 y.toNatClampNeg x1) 147 y.toNatClampNeg x2) 148 y.toNatClampNeg x3) 0 15 (y + (1 : Int32))).1 148 q = x3))) := fun y hy => by
      subst hy
      rw [nI_clamp (by omega), nI_1]
      exact ⟨V, V, V, go _ rfl⟩
    exact key (m.1 0 15) hq
  · rw [hq]
    exact (l_lt 12 12 rfl (by decide) (by omega)).mpr z.2.2.2
theorem e_seenM (w : WT m) (hn : m.1 187 1 = nI n) (n8 : n ≤ 8) (hq : m.1 187 52 = nI q) (q12 : q ≤ 12) : Ct ad μX12_seen (d + 3) [.ref (ad 187), .int x1, .int x2, .int x3] m (fun r m' => WT m' ∧ Fx (RS [20, 39, 57]) m m' ∧ ((¬ SeP n q x1 x2 x3 ∧ r = some (.int (-1)) ∧ m' = uI m 187 17 0) ∨ (SeP n q x1 x2 x3 ∧ r = some (.int (nI (q + 1))) ∧ m'.1 187 52 = nI (q + 1) ∧ (∀ k, k < 3 * q → m'.1 213 k = m.1 213 k) ∧ m'.1 213 (3 * q) = x1 ∧ m'.1 213 (3 * q + 1) = x2 ∧ m'.1 213 (3 * q + 2) = x3))) := by
  have w0 : WT (uI m 187 17 0) := w.n rfl
  have f0 : Fx (RS [20, 39, 57]) m (uI m 187 17 0) := Fx.rf.i rfl
  have hn0 : (uI m 187 17 0).1 187 1 = nI n := hn
  have hq0 : (uI m 187 17 0).1 187 52 = nI q := hq
  have h213 : ∀ k, (uI m 187 17 0).1 213 k = m.1 213 k := fun k => rfl
  refine v_X12_seen (d := d + 2) ?_
  generalize hM : uI m 187 17 0 = m1 at w0 f0 hn0 hq0 h213 ⊢
  refine (twoM (d := d) hn0 n8).to ?_
  rintro _ m2 ⟨eq, v1, rfl, y1, y2⟩
  obtain rfl := eq.symm
  have z2 : (2 : Int32).toInt = 2 := rfl
  have z0 : (0 : Int32).toInt = 0 := rfl
  have no : ¬ SeP n q x1 x2 x3 → WT m1 ∧ Fx (RS [20, 39, 57]) m m1 ∧ ((¬ SeP n q x1 x2 x3 ∧ some (Value.int (-1)) = some (.int (-1)) ∧ m1 = m1) ∨ (SeP n q x1 x2 x3 ∧ some (Value.int (-1)) = some (.int (nI (q + 1))) ∧ m1.1 187 52 = nI (q + 1) ∧ (∀ k, k < 3 * q → m1.1 213 k = m.1 213 k) ∧ m1.1 213 (3 * q) = x1 ∧ m1.1 213 (3 * q + 1) = x2 ∧ m1.1 213 (3 * q + 2) = x3)) := fun h => ⟨w0, f0, Or.inl ⟨h, rfl, rfl⟩⟩
  refine ⟨v1, rfl, fun c => no (fun z => y1 c z.1), fun c => (inM (x := x3) (lo := 0) (hi := 2) rfl rfl).to ?_⟩
  rintro _ m2 ⟨eq, v2, rfl, y3, y4⟩
  obtain rfl := eq.symm
  refine ⟨v2, rfl, fun c2 => no (fun z => y3 c2 ⟨by have := z.2.1; omega, by have := z.2.2.1; omega⟩), fun c2 => ⟨fun c4 => ?_, fun c4 => no (fun z => ?_)⟩⟩
  · have k2 := y4 c2
    have k4 : q < 12 := by
      rw [hq0] at c4
      have : q ≠ 12 := fun z => c4 (by rw [z]; rfl)
      omega
    have P : SeP n q x1 x2 x3 := ⟨y2 c, by omega, by omega, k4⟩
    obtain ⟨p1, p2⟩ := (y2 c).1
    obtain ⟨p3, p4⟩ := (y2 c).2.1
    have go : ∀ m', m' = uI (uI (uI (uI m1 213 (3 * q) x1) 213 (3 * q + 1) x2) 213 (3 * q + 2) x3) 187 52 (nI (q + 1)) → WT m' ∧ Fx (RS [20, 39, 57]) m m' ∧ ((¬ SeP n q x1 x2 x3 ∧ some (Value.int (nI (q + 1))) = some (.int (-1)) ∧ m' = m1) ∨ (SeP n q x1 x2 x3 ∧ some (Value.int (nI (q + 1))) = some (.int (nI (q + 1))) ∧ m'.1 187 52 = nI (q + 1) ∧ (∀ k, k < 3 * q → m'.1 213 k = m.1 213 k) ∧ m'.1 213 (3 * q) = x1 ∧ m'.1 213 (3 * q + 1) = x2 ∧ m'.1 213 (3 * q + 2) = x3)) := fun m' e => by
      subst e
      have t1 : (nI (q + 1)).toInt = (q + 1 : Nat) := nI_toInt (by omega)
      have T0 : TY 213 (3 * q) = some (0, 7) := by
        show (if (3 * q) % 3 < 2 then _ else _) = _
        rw [if_pos (by omega)]
      have T1 : TY 213 (3 * q + 1) = some (0, 7) := by
        show (if (3 * q + 1) % 3 < 2 then _ else _) = _
        rw [if_pos (by omega)]
      have T2 : TY 213 (3 * q + 2) = none := by
        show (if (3 * q + 2) % 3 < 2 then _ else _) = _
        rw [if_neg (by omega)]
      refine ⟨(((w0.t T0 (by omega) (by omega)).t T1 (by omega) (by omega)).n T2).t rfl (by omega) (by omega), Fx.i (Fx.i (Fx.i (Fx.i f0 rfl) rfl) rfl) rfl, Or.inr ⟨P, rfl, u_eq, fun k hk => ?_, ?_, ?_, ?_⟩⟩
      · exact ((u_ne (by omega)).trans ((u_ne (by omega)).trans ((u_ne (by omega)).trans (u_ne (by omega))))).trans (h213 k)
      · exact (u_ne (by omega)).trans ((u_ne (by omega)).trans ((u_ne (by omega)).trans u_eq))
      · exact (u_ne (by omega)).trans ((u_ne (by omega)).trans u_eq)
      · exact (u_ne (by omega)).trans u_eq
    have key : ∀ y : Int32, y = nI q → vp_in ((3 : Int32) * y) 36 ∧ vp_in ((3 : Int32) * y + (1 : Int32)) 36 ∧ vp_in ((3 : Int32) * y + (2 : Int32)) 36 ∧ (fun (r : Option Value) (m' : Wm) => WT m' ∧ Fx (RS [20, 39, 57]) m m' ∧ ((¬ SeP n q x1 x2 x3 ∧ r = some (.int (-1)) ∧ m' = m1) ∨ (SeP n q x1 x2 x3 ∧ r = some (.int (nI (q + 1))) ∧ m'.1 187 52 = nI (q + 1) ∧ (∀ k, k < 3 * q → m'.1 213 k = m.1 213 k) ∧ m'.1 213 (3 * q) = x1 ∧ m'.1 213 (3 * q + 1) = x2 ∧ m'.1 213 (3 * q + 2) = x3))) (some (.int (y + (1 : Int32)))) (uI (uI (uI (uI m1 213 ((3 : Int32) * y).toNatClampNeg x1) 213 ((3 : Int32) * y + (1 : Int32)).toNatClampNeg x2) 213 ((3 : Int32) * y + (2 : Int32)).toNatClampNeg x3) 187 52 (y + (1 : Int32))) := fun y hy => by
      subst hy
      rw [l_mul 3 3 rfl, add_l 2 2 rfl, nI_1, nI_1, nI_clamp (by omega), nI_clamp (by omega), nI_clamp (by omega)]
      exact ⟨nat_in (by omega) (by decide), nat_in (by omega) (by decide), nat_in (by omega) (by decide), go _ rfl⟩
    exact key (m1.1 187 52) hq0
  · have k4 := z.2.2.2
    rw [hq0] at c4
    have := (nI_eq (a := q) (b := 12) (by omega) (by omega)).mp (Classical.not_not.mp (fun y => y c4))
    omega
theorem og_seen (c : Nat) (x1 x2 x3 : Int32) : Both ad d μX11_seen μX12_seen [.int x1, .int x2, .int x3] (InvK (KX KG c)) (InvK (KX KG (c + 1))) := fun m I => by
  have J := J17 I
  obtain ⟨w, I1, kg, kb⟩ := I
  obtain ⟨r1, r2, h33, h34, h52, hS, hW⟩ := I1
  obtain ⟨n, en, -, -, n8, -⟩ := w.nat (a := 3) (k := 3) rfl (by decide)
  obtain ⟨q, eq15, -, -, q12, -⟩ := w.nat (a := 0) (k := 15) rfl (by decide)
  refine (e_seenC (d := d + 298) (x1 := x1) (x2 := x2) (x3 := x3) w en (by omega) eq15 (by omega)).to ?_
  rintro _ m1 ⟨w1, f1, ⟨hP, rfl, eq⟩ | ⟨hP, rfl, a1, a2, a3, a4, a5⟩⟩
  · obtain rfl := eq.symm
    refine ⟨_, rfl, (e_seenM (d := d + 297) (x1 := x1) (x2 := x2) (x3 := x3) w (h33.symm.trans en) (by omega) (h52.symm.trans eq15) (by omega)).to ?_⟩
    rintro _ m2 ⟨w2, f2, ⟨hP2, rfl, rfl⟩ | ⟨hP2, -⟩⟩
    · exact ⟨rfl, J⟩
    · exact absurd hP2 hP
  · have e1 : m1.1 187 1 = nI n := (f1.at (nRS (ρ := 23) rfl rfl)).trans (h33.symm.trans en)
    have e52 : m1.1 187 52 = nI q := (f1.at (nRS (ρ := 39) rfl rfl)).trans (h52.symm.trans eq15)
    refine ⟨_, rfl, (e_seenM (d := d + 297) (x1 := x1) (x2 := x2) (x3 := x3) w1 e1 (by omega) e52 (by omega)).to ?_⟩
    rintro _ m2 ⟨w2, f2, ⟨hP2, -⟩ | ⟨-, rfl, b1, b2, b3, b4, b5⟩⟩
    · exact absurd hP hP2
    · have g33 : m2.1 3 3 = m.1 3 3 := (f2.at (nRS (ρ := 41) rfl rfl)).trans (f1.at (nRS (ρ := 41) rfl rfl))
      have g34 : m2.1 3 4 = m.1 3 4 := (f2.at (nRS (ρ := 41) rfl rfl)).trans (f1.at (nRS (ρ := 41) rfl rfl))
      have k33 : m2.1 187 1 = m.1 187 1 := (f2.at (nRS (ρ := 23) rfl rfl)).trans (f1.at (nRS (ρ := 23) rfl rfl))
      have k34 : m2.1 187 0 = m.1 187 0 := (f2.at (nRS (ρ := 23) rfl rfl)).trans (f1.at (nRS (ρ := 23) rfl rfl))
      have g15 : m2.1 0 15 = nI (q + 1) := (f2.at (nRS (ρ := 8) rfl rfl)).trans a1
      have q56 : ∀ b k, rg b k = 56 → m2.1 b k = m1.1 b k := fun b k e => f2.at (nRS (ρ := 56) rfl e)
      have q57 : ∀ k, m1.1 213 k = m.1 213 k := fun k => f1.at (nRS (ρ := 57) rfl rfl)
      refine ⟨rfl, w2, ⟨(r1.fx f1 rfl).fx f2 rfl, (r2.fx f1 rfl rfl).fx f2 rfl rfl, by rw [g33, k33]; exact h33, by rw [g34, k34]; exact h34, g15.trans b1.symm, fun i hi => ?_, (hW.fx f1 rfl).fx f2 rfl⟩, (kg.fx f1 rfl).fx f2 rfl, KB.fd c f1 f2 kb rfl rfl⟩
      rw [g15, nI_toInt (by omega)] at hi
      rw [g33, q56 146 i rfl, q56 147 i rfl, q56 148 i rfl]
      by_cases z : i = q
      · subst z
        obtain ⟨s, hs, rfl⟩ := hP.1.1.of
        obtain ⟨t, ht, rfl⟩ := hP.1.2.1.of
        rw [en, nI_toInt (by omega)]
        exact ⟨s, t, by omega, by omega, a3, a4, b3, b4, b5.trans a5.symm⟩
      · obtain ⟨s, t, s1, s2, s3, s4, s5, s6, s7⟩ := hS i (by rw [eq15, nI_toInt (by omega)]; omega)
        obtain ⟨o1, o2, o3⟩ := a2 i (by omega)
        exact ⟨s, t, s1, s2, o1.trans s3, o2.trans s4, (b2 _ (by omega)).trans ((q57 _).trans s5), (b2 _ (by omega)).trans ((q57 _).trans s6), (b2 _ (by omega)).trans ((q57 _).trans (s7.trans o3.symm))⟩
end SEE
/-! CALL: found, with its answers -/
/-- the pair that is in row i, and who won; does it show -/
abbrev SeT : Type := (Nat → Nat) × (Nat → Nat) × (Nat → Int32)
def foD (v : EV) (g : GS) (T : SeT) (i : Nat) : Bool := decide (¬ wnG v g (T.1 i) (T.2.1 i) 0 = T.2.2 i)
def foB (v : EV) (g : GS) (T : SeT) (q : Nat) (x : Int32) : Prop := ∀ j, j < 32 → bt x j = (decide (j < q) && foD v g T j)
theorem bz_32 : ∀ i, i < 32 → bt 0 i = false := by decide +kernel
theorem bs_32 : ∀ k, k < 12 → bt ((1 : Int32) <<< (nI k &&& 31)) 31 = false := by decide +kernel
theorem bt_1sh {j k : Nat} (hk : k < 12) (hj : j < 32) : bt ((1 : Int32) <<< (nI k &&& 31)) j = decide (j = k) := by
  by_cases h : j < 31
  · exact bt_1shl (by omega) h
  · obtain rfl : j = 31 := by omega
    rw [bs_32 k hk, decide_eq_false (by omega)]
section FND
variable {ad : Nat → Nat} {d q : Nat} {m m0 : Wm} {g : GS} {v : EV} {T : SeT}
def seC (T : SeT) (q : Nat) (m : Wm) : Prop := m.1 0 15 = nI q ∧ ∀ i, i < q → m.1 146 i = nI (T.1 i) ∧ m.1 147 i = nI (T.2.1 i) ∧ m.1 148 i = T.2.2 i
def seM (T : SeT) (q : Nat) (m : Wm) : Prop := m.1 187 52 = nI q ∧ ∀ i, i < q → m.1 213 (3 * i) = nI (T.1 i) ∧ m.1 213 (3 * i + 1) = nI (T.2.1 i) ∧ m.1 213 (3 * i + 2) = T.2.2 i
theorem seC.fx {S : List Nat} {m' : Wm} (h : seC T q m) (f : Fx (RS S) m m') (e8 : S.elem 8 = false) (e56 : S.elem 56 = false) : seC T q m' := ⟨(f.at (nRS (ρ := 8) e8 rfl)).trans h.1, fun i hi => ⟨(f.at (nRS (ρ := 56) e56 rfl)).trans (h.2 i hi).1, (f.at (nRS (ρ := 56) e56 rfl)).trans (h.2 i hi).2.1, (f.at (nRS (ρ := 56) e56 rfl)).trans (h.2 i hi).2.2⟩⟩
theorem seM.fx {S : List Nat} {m' : Wm} (h : seM T q m) (f : Fx (RS S) m m') (e39 : S.elem 39 = false) (e57 : S.elem 57 = false) : seM T q m' := ⟨(f.at (nRS (ρ := 39) e39 rfl)).trans h.1, fun i hi => ⟨(f.at (nRS (ρ := 57) e57 rfl)).trans (h.2 i hi).1, (f.at (nRS (ρ := 57) e57 rfl)).trans (h.2 i hi).2.1, (f.at (nRS (ρ := 57) e57 rfl)).trans (h.2 i hi).2.2⟩⟩
theorem se_of {n : Nat} (h : SeR m) (hn : m.1 3 3 = nI n) (n8 : n ≤ 8) (hq : m.1 0 15 = nI q) (q12 : q ≤ 12) (h52 : m.1 0 15 = m.1 187 52) : ∃ T, seC T q m ∧ seM T q m ∧ ∀ i, i < q → T.1 i < n ∧ T.2.1 i < n := by
  have k : ∀ i, i < q → (m.1 146 i).toNatClampNeg < n ∧ (m.1 147 i).toNatClampNeg < n ∧ m.1 146 i = nI (m.1 146 i).toNatClampNeg ∧ m.1 147 i = nI (m.1 147 i).toNatClampNeg ∧ m.1 213 (3 * i) = m.1 146 i ∧ m.1 213 (3 * i + 1) = m.1 147 i ∧ m.1 213 (3 * i + 2) = m.1 148 i := fun i hi => by
    obtain ⟨a, b, s1, s2, s3, s4, s5, s6, s7⟩ := h i (by rw [hq, nI_toInt (by omega)]; omega)
    rw [hn, nI_toInt (by omega)] at s1 s2
    rw [s3, s4, nI_clamp (by omega), nI_clamp (by omega)]
    exact ⟨by omega, by omega, rfl, rfl, s5, s6, s7⟩
  refine ⟨(fun i => (m.1 146 i).toNatClampNeg, fun i => (m.1 147 i).toNatClampNeg, fun i => m.1 148 i), ⟨hq, fun i hi => ⟨(k i hi).2.2.1, (k i hi).2.2.2.1, rfl⟩⟩, ⟨h52.symm.trans hq, fun i hi => ⟨(k i hi).2.2.2.2.1.trans (k i hi).2.2.1, (k i hi).2.2.2.2.2.1.trans (k i hi).2.2.2.1, (k i hi).2.2.2.2.2.2⟩⟩, fun i hi => ⟨(k i hi).1, (k i hi).2.1⟩⟩
theorem foB_p {x : Int32} {i : Nat} (h : foB v g T i x) (hD : foD v g T i = true) (hi : i < 12) : foB v g T (i + 1) (x ||| ((1 : Int32) <<< (nI i &&& 31))) := fun j hj => by
  rw [b_or, bt_1sh hi hj, h j hj]
  by_cases e : j = i
  · subst e
    rw [hD, decide_eq_true (show j = j from rfl), decide_eq_true (show j < j + 1 by omega), Bool.or_true]
    rfl
  · rw [decide_eq_false e, Bool.or_false]
    by_cases l : j < i
    · rw [decide_eq_true l, decide_eq_true (show j < i + 1 by omega)]
    · rw [decide_eq_false l, decide_eq_false (show ¬ j < i + 1 by omega)]
theorem foB_n {x : Int32} {i : Nat} (h : foB v g T i x) (hD : foD v g T i = false) : foB v g T (i + 1) x := fun j hj => by
  rw [h j hj]
  by_cases e : j = i
  · subst e
    rw [hD, Bool.and_false, Bool.and_false]
  · by_cases l : j < i
    · rw [decide_eq_true l, decide_eq_true (show j < i + 1 by omega)]
    · rw [decide_eq_false l, decide_eq_false (show ¬ j < i + 1 by omega)]
/-- once all are in, one more changes nothing -/
theorem foB_f {x : Int32} {i : Nat} (h : foB v g T q x) (hD : foD v g T i = true) (hi : i < q) (hq : q ≤ 12) : foB v g T q (x ||| ((1 : Int32) <<< (nI i &&& 31))) := fun j hj => by
  rw [b_or, bt_1sh (by omega) hj, h j hj]
  by_cases e : j = i
  · subst e
    rw [hD, decide_eq_true hi, decide_eq_true (show j = j from rfl)]
    rfl
  · rw [decide_eq_false e, Bool.or_false]
theorem foB_0 : foB v g T 0 0 := fun j hj => by
  rw [decide_eq_false (Nat.not_lt_zero j), Bool.false_and]
  exact bz_32 j hj
theorem foB_eq {x y : Int32} (h1 : foB v g T q x) (h2 : foB v g T q y) : x = y := b_ext (fun i hi => (h1 i hi).trans (h2 i hi).symm)
theorem foD_t {i : Nat} (h : ¬ wnG v g (T.1 i) (T.2.1 i) 0 = T.2.2 i) : foD v g T i = true := decide_eq_true h
theorem foD_f {i : Nat} (h : wnG v g (T.1 i) (T.2.1 i) 0 = T.2.2 i) : foD v g T i = false := decide_eq_false (fun z => z h)
def fcQ (v : EV) (g : GS) (T : SeT) (q : Nat) (m0 : Wm) (r : Option Value) (m' : Wm) : Prop := WT m' ∧ Fx (RS [9, 14]) m0 m' ∧ ∃ x : Int32, r = some (.int x) ∧ foB v g T q x
theorem fc_139 {x1 : Int32} {s : Nat} {z0 z1 : Int64} (hB : foB v g T q x1) (w : WT m) (f : Fx (RS [9, 14]) m0 m) (hs : s < 8) : AW ad E0 μX11_found (d + 5) (fcQ v g T q m0) 139 [(0, .ref (ad 0)), (1, .int x1), (2, .int (nI s))] [.long z0, .long z1, .ref (ad 0)] m := by
  refine g_X11_found_139 (d := d + 4) ⟨nat_in hs (by decide), (s_X11_tell__ w).to ?_⟩
  rintro _ m1 ⟨w1, f1, rfl⟩
  exact ⟨rfl, w1, f.tr f1 (RS_sub rfl), x1, rfl, hB⟩
theorem fc_87 {x1 : Int32} {n : Nat} (hB : foB v g T q x1) (n8 : n ≤ 8) (w : WT m) (f : Fx (RS [9, 14]) m0 m) (hn : m.1 3 3 = nI n) : ∀ (j k s : Nat), k + j = n → s < 8 → AW ad E0 μX11_found (d + 5) (fcQ v g T q m0) 87 [(0, .ref (ad 0)), (1, .int x1), (2, .int (nI s)), (3, .int (nI k))] [] m := by
  intro j
  induction j with
  | zero =>
    intro k s hk hs
    refine g_X11_found_87 (d := d + 4) ⟨fun _ => (s_J6_bitCount w).to ?_, fun c => absurd (by rw [hn]; exact (nI_leI (a := n) (b := k) (by omega) (by omega)).mpr (by omega)) c⟩
    rintro _ m1 ⟨w1, f1, v2, rfl⟩
    exact ⟨v2, rfl, fun _ => fc_139 hB w1 (f.tr f1 (RS_sub rfl)) hs, fun _ => fc_139 hB w1 (f.tr f1 (RS_sub rfl)) hs⟩
  | succ j ih =>
    intro k s hk hs
    refine g_X11_found_87 (d := d + 4) ⟨fun c => absurd (by rw [hn] at c; exact (nI_leI (a := n) (b := k) (by omega) (by omega)).mp c) (by omega), fun _ => ⟨nat_in (by omega) (by decide), nat_in hs (by decide), fun _ => ?_, fun _ => ?_⟩⟩
    · rw [nI_1]; exact ih (k + 1) s (by omega) hs
    · rw [nI_1]; exact ih (k + 1) k (by omega) (by omega)
theorem fc_25 (q12 : q ≤ 12) (hT : ∀ i, i < q → T.1 i < nE v ∧ T.2.1 i < nE v) : ∀ (j i : Nat) (x1 : Int32) (m : Wm), i + j = q → foB v g T i x1 → WT m → Fx (RS [9, 14]) m0 m → HC 21 m g → EC m v → seC T q m → AW ad E0 μX11_found (d + 5) (fcQ v g T q m0) 25 [(0, .ref (ad 0)), (1, .int x1), (2, .int (nI i))] [] m := by
  intro j
  induction j with
  | zero =>
    intro i x1 m hi hB w f hc ec hS
    obtain rfl : i = q := hi
    exact g_X11_found_25 (d := d + 4) ⟨fun _ => fc_87 hB ec.2.2.1 w f ec.1 (nE v) 0 0 (by omega) (by decide), fun c => absurd (by rw [hS.1]; exact (nI_leI (a := i) (b := i) (by omega) (by omega)).mpr (Nat.le_refl _)) c⟩
  | succ j ih =>
    intro i x1 m hi hB w f hc ec hS
    have n8 := ec.2.2.1
    obtain ⟨t1, t2⟩ := hT i (by omega)
    obtain ⟨s1, s2, s3⟩ := hS.2 i (by omega)
    have V : vp_in (nI i) 12 := nat_in (by omega) (by decide)
    refine g_X11_found_25 (d := d + 4) ⟨fun c => absurd (by rw [hS.1] at c; exact (nI_leI (a := q) (b := i) (by omega) (by omega)).mp c) (by omega), fun _ => ⟨V, V, ?_⟩⟩
    rw [nI_clamp (by omega), s1, s2]
    refine (resultC (d := d) SS_21 (Or.inr (Or.inl rfl)) w hc ec (a := T.1 i) (e := T.2.1 i) (by omega) (by omega) (th := 0) (Or.inl rfl)).to ?_
    rintro _ m1 ⟨w1, f1, rfl⟩
    have s3' : m1.1 148 i = T.2.2 i := (f1.at (nRS (ρ := 56) rfl rfl)).trans s3
    have F1 : Fx (RS [9, 14]) m0 m1 := f.tr f1 (RS_sub rfl)
    refine ⟨_, rfl, V, ?_⟩
    rw [s3', nI_1]
    refine ⟨fun c => ih (i + 1) x1 m1 (by omega) (foB_n hB (foD_f c)) w1 F1 (hc.fx SS_21 f1 rfl) (ec.fx f1 rfl) (hS.fx f1 rfl rfl), fun c => (s_X11_countThrowers w1 (by rw [nI_toInt (by omega)]; omega) (by rw [nI_toInt (by omega)]; omega)).to ?_⟩
    rintro _ m2 ⟨w2, f2, rfl⟩
    exact ⟨rfl, ih (i + 1) _ m2 (by omega) (foB_p hB (foD_t c) (by omega)) w2 (F1.tr f2 (RS_sub rfl)) ((hc.fx SS_21 f1 rfl).fx SS_21 f2 rfl) ((ec.fx f1 rfl).fx f2 rfl) ((hS.fx f1 rfl rfl).fx f2 rfl rfl)⟩
theorem e_foundC (q12 : q ≤ 12) (hT : ∀ i, i < q → T.1 i < nE v ∧ T.2.1 i < nE v) (w : WT m) (hc : HC 21 m g) (ec : EC m v) (hS : seC T q m) : Ct ad μX11_found (d + 5) [.ref (ad 0)] m (fcQ v g T q m) := by
  have L : ∀ (j k : Nat) (m1 : Wm), k + j = 8 → WT m1 → Fx (RS [9]) m m1 → AW ad E0 μX11_found (d + 5) (fcQ v g T q m) 2 [(0, .ref (ad 0)), (1, .int (nI k))] [] m1 := by
    intro j
    induction j with
    | zero =>
      intro k m1 hk w1 f1
      exact g_X11_found_2 (d := d + 4) ⟨fun _ => fc_25 (d := d) q12 hT q 0 0 m1 (by omega) foB_0 w1 (Fx.tr Fx.rf f1 (RS_sub rfl)) (hc.fx SS_21 f1 rfl) (ec.fx f1 rfl) (hS.fx f1 rfl rfl), fun c => absurd ((le_l 8 8 rfl (by decide) (by omega)).mpr (by omega)) c⟩
    | succ j ih =>
      intro k m1 hk w1 f1
      refine g_X11_found_2 (d := d + 4) ⟨fun c => absurd ((le_l 8 8 rfl (by decide) (by omega)).mp c) (by omega), fun _ => ⟨nat_in (by omega) (by decide), ?_⟩⟩
      rw [nI_1]
      exact ih (k + 1) _ (by omega) (w1.n rfl) (f1.i rfl)
  exact v_X11_found (d := d + 4) (L 8 0 m rfl w Fx.rf)
/-! the model -/
def fmQ (v : EV) (g : GS) (T : SeT) (q : Nat) (m0 : Wm) (r : Option Value) (m' : Wm) : Prop := WT m' ∧ Fx (RS [20, 22, 26, 28]) m0 m' ∧ ∃ x : Int32, r = some (.int x) ∧ foB v g T q x
def fmI (v : EV) (g : GS) (T : SeT) (q : Nat) (m0 m : Wm) : Prop := WT m ∧ Fx (RS [20, 22, 26, 28]) m0 m ∧ HM (nE v) m g ∧ EM m v ∧ seM T q m
/-- within a side's turn, i rows behind: the first side puts the bits in, the others find them there -/
def foS (v : EV) (g : GS) (T : SeT) (q s i : Nat) (x : Int32) : Prop := (s = 0 ∧ foB v g T i x) ∨ foB v g T q x
theorem fm_29 (q12 : q ≤ 12) (hT : ∀ i, i < q → T.1 i < nE v ∧ T.2.1 i < nE v) {s : Nat}
    (K : ∀ (m1 : Wm) (x1 x2 x3 : Int32), foB v g T q x1 → fmI v g T q m0 m1 → AW ad E0 μX12_found (d + 170) (fmQ v g T q m0) 14 [(0, .ref (ad 187)), (1, .int x1), (2, .int x2), (3, .int x3), (4, .int (nI (s + 1)))] [] m1) :
    ∀ (j i : Nat) (x1 x2 x3 x5 : Int32) (m : Wm), i + j = q → foS v g T q s i x1 → fmI v g T q m0 m → AW ad E0 μX12_found (d + 170) (fmQ v g T q m0) 29 [(0, .ref (ad 187)), (1, .int x1), (2, .int x2), (3, .int x3), (4, .int (nI s)), (5, .int x5), (6, .int (nI i))] [] m := by
  intro j
  induction j with
  | zero =>
    intro i x1 x2 x3 x5 m hi hB I
    obtain rfl : i = q := hi
    have hB' : foB v g T i x1 := hB.elim (fun z => z.2) id
    refine g_X12_found_29 (d := d + 169) ⟨fun _ => ?_, fun c => absurd (by rw [I.2.2.2.2.1]; exact (nI_leI (a := i) (b := i) (by omega) (by omega)).mpr (Nat.le_refl _)) c⟩
    rw [nI_1]
    exact ⟨fun _ => K m _ _ _ hB' I, fun _ => K m _ _ _ hB' I⟩
  | succ j ih =>
    intro i x1 x2 x3 x5 m hi hB I
    obtain ⟨w, f, hm, em, hS⟩ := I
    obtain ⟨t1, t2⟩ := hT i (by omega)
    obtain ⟨s1, s2, s3⟩ := hS.2 i (by omega)
    refine g_X12_found_29 (d := d + 169) ⟨fun c => absurd (by rw [hS.1] at c; exact (nI_leI (a := q) (b := i) (by omega) (by omega)).mp c) (by omega), fun _ => ?_⟩
    rw [l_mul 3 3 rfl, add_l 2 2 rfl, nI_1, nI_1, nI_clamp (by omega), nI_clamp (by omega), nI_clamp (by omega), s1, s2, s3]
    refine ⟨nat_in (by omega) (by decide), nat_in (by omega) (by decide), nat_in (by omega) (by decide), (winnerM (d := d) w hm em t1 t2).to ?_⟩
    rintro _ m1 ⟨w1, f1, rfl⟩
    have I1 : fmI v g T q m0 m1 := ⟨w1, f.tr f1 (RS_sub rfl), hm.fx f1 rfl rfl, em.fx f1 rfl, hS.fx f1 rfl rfl⟩
    refine ⟨_, rfl, fun c => ?_, fun c => ?_⟩
    · have hB1 : foS v g T q s (i + 1) (x1 ||| ((1 : Int32) <<< (nI i &&& 31))) := by
        rcases hB with ⟨z, h⟩ | h
        · exact Or.inl ⟨z, foB_p h (foD_t c) (by omega)⟩
        · exact Or.inr (foB_f h (foD_t c) (by omega) (by omega))
      have N : ∀ y5 : Int32, AW ad E0 μX12_found (d + 170) (fmQ v g T q m0) 29 [(0, .ref (ad 187)), (1, .int (x1 ||| ((1 : Int32) <<< (nI i &&& 31)))), (2, .int x2), (3, .int x3), (4, .int (nI s)), (5, .int y5), (6, .int (nI (i + 1)))] [] m1 := fun y5 => ih (i + 1) _ _ _ y5 m1 (by omega) hB1 I1
      have M : ∀ x8 x9 : Int32, AW ad E0 μX12_found (d + 170) (fmQ v g T q m0) 113 [(0, .ref (ad 187)), (1, .int (x1 ||| ((1 : Int32) <<< (nI i &&& 31)))), (2, .int x2), (3, .int x3), (4, .int (nI s)), (6, .int (nI i)), (8, .int x8), (9, .int x9)] [.int x5] m1 := fun x8 x9 => by
        refine g_X12_found_113 (d := d + 169) ?_
        rw [nI_1]
        exact ⟨fun _ => N _, fun _ => ⟨fun _ => N _, fun _ => N _⟩⟩
      exact ⟨fun _ => M _ _, fun _ => ⟨fun _ => N _, fun _ => M _ _⟩⟩
    · have hB1 : foS v g T q s (i + 1) x1 := by
        rcases hB with ⟨z, h⟩ | h
        · exact Or.inl ⟨z, foB_n h (foD_f c)⟩
        · exact Or.inr h
      exact ih (i + 1) _ _ _ _ m1 (by omega) hB1 I1
theorem fm_14 (q12 : q ≤ 12) (hT : ∀ i, i < q → T.1 i < nE v ∧ T.2.1 i < nE v) : ∀ (j s : Nat) (x1 x2 x3 : Int32) (m : Wm), s + j = nE v → (foB v g T q x1 ∨ (s = 0 ∧ x1 = 0)) → fmI v g T q m0 m → AW ad E0 μX12_found (d + 170) (fmQ v g T q m0) 14 [(0, .ref (ad 187)), (1, .int x1), (2, .int x2), (3, .int x3), (4, .int (nI s))] [] m := by
  intro j
  induction j with
  | zero =>
    intro s x1 x2 x3 m hs hB I
    obtain ⟨w, f, hm, em, hS⟩ := I
    have n8 := em.2.2.1
    have hB' : foB v g T q x1 := by
      rcases hB with h | ⟨z, rfl⟩
      · exact h
      · have q0 : q = 0 := Nat.eq_zero_of_not_pos (fun y => by have := (hT 0 y).1; omega)
        subst q0
        exact foB_0
    have w2 : WT (uI m 187 16 (0 : Int32)) := w.t rfl (by decide) (by decide)
    have e16 : ((uI m 187 16 (0 : Int32)).1 187 16).toInt = 0 := by
      rw [u_eq]
      rfl
    refine g_X12_found_14 (d := d + 169) ⟨fun _ => (v_bitCount).to ?_, fun c => absurd (by rw [em.1]; exact (nI_leI (a := nE v) (b := s) (by omega) (by omega)).mpr (by omega)) c⟩
    rintro _ m3 ⟨rfl, rfl⟩
    refine ⟨_, rfl, (s_X12_tell w2 (by omega)).to ?_⟩
    rintro _ m4 ⟨w4, f4, rfl, p4⟩
    have p4' : (m4.1 187 16).toInt = ((uI m 187 16 (0 : Int32)).1 187 16).toInt + 1 := p4
    refine ⟨rfl, (s_X12_tell w4 (by omega)).to ?_⟩
    rintro _ m5 ⟨w5, f5, rfl, p5⟩
    have p5' : (m5.1 187 16).toInt = (m4.1 187 16).toInt + 1 := p5
    refine ⟨rfl, (s_X12_tell w5 (by omega)).to ?_⟩
    rintro _ m6 ⟨w6, f6, rfl, -⟩
    exact ⟨rfl, w6, (((f.i rfl).tr f4 (RS_sub rfl)).tr f5 (RS_sub rfl)).tr f6 (RS_sub rfl), x1, rfl, hB'⟩
  | succ j ih =>
    intro s x1 x2 x3 m hs hB I
    have em := I.2.2.2.1
    have n8 := em.2.2.1
    have hB' : foS v g T q s 0 x1 := by
      rcases hB with h | ⟨z, rfl⟩
      · exact Or.inr h
      · exact Or.inl ⟨z, foB_0⟩
    exact g_X12_found_14 (d := d + 169) ⟨fun c => absurd (by rw [em.1] at c; exact (nI_leI (a := nE v) (b := s) (by omega) (by omega)).mp c) (by omega), fun _ => fm_29 (d := d) q12 hT (fun m1 y1 y2 y3 h1 J1 => ih (s + 1) y1 y2 y3 m1 (by omega) (Or.inl h1) J1) q 0 x1 x2 x3 0 m (by omega) hB' I⟩
theorem e_foundM (q12 : q ≤ 12) (hT : ∀ i, i < q → T.1 i < nE v ∧ T.2.1 i < nE v) (w : WT m) (hm : HM (nE v) m g) (em : EM m v) (hS : seM T q m) : Ct ad μX12_found (d + 170) [.ref (ad 187)] m (fmQ v g T q m) := by
  have f0 : Fx (RS [20, 22, 26, 28]) m (uI m 187 17 0) := Fx.rf.i rfl
  exact v_X12_found (d := d + 169) (fm_14 (d := d) q12 hT (nE v) 0 0 (-1) 0 _ (by omega) (Or.inr ⟨rfl, rfl⟩) ⟨w.n rfl, f0, hm, em, hS.fx f0 rfl rfl⟩)
theorem og_found (c : Nat) : Both ad d μX11_found μX12_found [] (InvK (KX KG c)) (InvK (KX KG (c + 1))) := fun m I => by
  obtain ⟨w, I1, ⟨g, v, H, kd⟩, kb⟩ := I
  have ec := kd.2.2.1
  have n8 := ec.2.2.1
  obtain ⟨q, eq15, -, -, q12, -⟩ := w.nat (a := 0) (k := 15) rfl (by decide)
  obtain ⟨T, hC, hM, hT⟩ := se_of I1.2.2.2.2.2.1 ec.1 n8 eq15 (by omega) I1.2.2.2.2.1
  refine (e_foundC (d := d + 295) (by omega) hT w kd.1 ec hC).to ?_
  rintro _ m1 ⟨w1, f1, x, rfl, hx⟩
  have kd1 := kd.fx f1 rfl
  refine ⟨x, rfl, (e_foundM (d := d + 130) (by omega) hT w1 kd1.2.1 kd1.2.2.2.1 (hM.fx f1 rfl rfl)).to ?_⟩
  rintro _ m2 ⟨w2, f2, y, rfl, hy⟩
  obtain rfl := foB_eq hx hy
  exact ⟨rfl, w2, I1.f2 f1 f2 rfl rfl, ⟨g, v, H, kd1.fx f2 rfl⟩, KB.fd c f1 f2 kb rfl rfl⟩
end FND
end
section
/-! STATES AS NUMBERS: sixteen skills in one long, on both sides -/
def sdg (x : Int32) : Nat := x.toNatClampNeg
/-- from the least on (class) -/
def pkN (f : Nat → Int32) (o : Nat) : Nat → Nat
  | 0 => 0
  | n + 1 => pkN f o n + sdg (f (o + n)) * 8 ^ n
/-- from the greatest on (model) -/
def mkN (f : Nat → Int32) (o : Nat) : Nat → Nat
  | 0 => 0
  | n + 1 => mkN f o n * 8 + sdg (f (o + n))
/-- all from 0 to 7 -/
def SR7 (f : Nat → Int32) : Prop := ∀ k, k < 32 → 0 ≤ (f k).toInt ∧ (f k).toInt ≤ 7
/-- alike as states -/
def EQ32 (f f' : Nat → Int32) : Prop := ∀ k, k < 32 → f k = f' k
theorem sdg_ok {x : Int32} (h : 0 ≤ x.toInt ∧ x.toInt ≤ 7) : sdg x < 8 ∧ x = nI (sdg x) := by
  obtain ⟨j, hj, rfl⟩ := zn_of h.1
  have h2 := h.2
  rw [nI_toInt hj] at h2
  unfold sdg
  rw [nI_clamp hj]
  exact ⟨by omega, rfl⟩
theorem sdg_inj {x y : Int32} (hx : 0 ≤ x.toInt ∧ x.toInt ≤ 7) (hy : 0 ≤ y.toInt ∧ y.toInt ≤ 7) (h : sdg x = sdg y) : x = y := by
  rw [(sdg_ok hx).2, (sdg_ok hy).2, h]
section PKN
variable {f f' : Nat → Int32} {o : Nat}
theorem spk_lt : ∀ n, (∀ k, k < n → sdg (f (o + k)) < 8) → pkN f o n < 8 ^ n := by
  intro n
  induction n with
  | zero => intro _; exact Nat.one_pos
  | succ n ih =>
    intro h
    have h1 := ih (fun k hk => h k (by omega))
    have h2 := h n (by omega)
    have h3 : sdg (f (o + n)) * 8 ^ n ≤ 7 * 8 ^ n := Nat.mul_le_mul_right _ (by omega)
    show pkN f o n + sdg (f (o + n)) * 8 ^ n < 8 ^ (n + 1)
    rw [Nat.pow_succ]
    generalize sdg (f (o + n)) * 8 ^ n = z at h3 ⊢
    generalize 8 ^ n = a at h1 h3 ⊢
    omega
theorem mk_lt : ∀ n, (∀ k, k < n → sdg (f (o + k)) < 8) → mkN f o n < 8 ^ n := by
  intro n
  induction n with
  | zero => intro _; exact Nat.one_pos
  | succ n ih =>
    intro h
    have h1 := ih (fun k hk => h k (by omega))
    have h2 := h n (by omega)
    show mkN f o n * 8 + sdg (f (o + n)) < 8 ^ (n + 1)
    rw [Nat.pow_succ]
    generalize 8 ^ n = a at h1 ⊢
    omega
theorem pk_ch : ∀ n, (∀ k, k < n → f (o + k) = f' (o + k)) → pkN f o n = pkN f' o n := by
  intro n
  induction n with
  | zero => intro _; rfl
  | succ n ih =>
    intro h
    show pkN f o n + sdg (f (o + n)) * 8 ^ n = pkN f' o n + sdg (f' (o + n)) * 8 ^ n
    rw [ih (fun k hk => h k (by omega)), h n (by omega)]
theorem mk_ch : ∀ n, (∀ k, k < n → f (o + k) = f' (o + k)) → mkN f o n = mkN f' o n := by
  intro n
  induction n with
  | zero => intro _; rfl
  | succ n ih =>
    intro h
    show mkN f o n * 8 + sdg (f (o + n)) = mkN f' o n * 8 + sdg (f' (o + n))
    rw [ih (fun k hk => h k (by omega)), h n (by omega)]
theorem pk_dig : ∀ n, (∀ k, k < n → sdg (f (o + k)) < 8) → ∀ k, k < n → pkN f o n / 8 ^ k % 8 = sdg (f (o + k)) := by
  intro n
  induction n with
  | zero => intro _ k hk; exact absurd hk (Nat.not_lt_zero k)
  | succ n ih =>
    intro h k hk
    have h0 : ∀ k, k < n → sdg (f (o + k)) < 8 := fun k hk => h k (by omega)
    have h1 := spk_lt n h0
    show (pkN f o n + sdg (f (o + n)) * 8 ^ n) / 8 ^ k % 8 = _
    by_cases c : k = n
    · subst c
      rw [Nat.add_mul_div_right _ _ (Nat.pow_pos (by decide)), Nat.div_eq_of_lt h1, Nat.zero_add]
      exact Nat.mod_eq_of_lt (h k (by omega))
    · obtain ⟨j, rfl⟩ : ∃ j, n = k + 1 + j := ⟨n - k - 1, by omega⟩
      have e : sdg (f (o + (k + 1 + j))) * 8 ^ (k + 1 + j) = 8 ^ k * (8 * (8 ^ j * sdg (f (o + (k + 1 + j))))) := by
        rw [Nat.pow_add, Nat.pow_succ, Nat.mul_comm (sdg _), Nat.mul_assoc, Nat.mul_assoc]
      rw [e, Nat.add_mul_div_left _ _ (Nat.pow_pos (by decide)), Nat.add_mul_mod_self_left]
      exact ih h0 k (by omega)
theorem mk_dig : ∀ n, (∀ k, k < n → sdg (f (o + k)) < 8) → ∀ t, t < n → mkN f o n / 8 ^ t % 8 = sdg (f (o + (n - 1 - t))) := by
  intro n
  induction n with
  | zero => intro _ t ht; exact absurd ht (Nat.not_lt_zero t)
  | succ n ih =>
    intro h t ht
    have hn := h n (by omega)
    show (mkN f o n * 8 + sdg (f (o + n))) / 8 ^ t % 8 = _
    cases t with
    | zero =>
      rw [Nat.pow_zero, Nat.div_one, show n + 1 - 1 - 0 = n by omega]
      omega
    | succ t =>
      rw [Nat.pow_succ, Nat.mul_comm (8 ^ t), ← Nat.div_div_eq_div_mul, show (mkN f o n * 8 + sdg (f (o + n))) / 8 = mkN f o n by omega, show n + 1 - 1 - (t + 1) = n - 1 - t by omega]
      exact ih (fun k hk => h k (by omega)) t (by omega)
theorem pk_cons : ∀ n, pkN f o (n + 1) = sdg (f o) + 8 * pkN f (o + 1) n := by
  intro n
  induction n with
  | zero =>
    show 0 + sdg (f (o + 0)) * 8 ^ 0 = sdg (f o) + 8 * 0
    rw [Nat.add_zero o, Nat.pow_zero]
    omega
  | succ n ih =>
    have e1 : pkN f o (n + 1 + 1) = pkN f o (n + 1) + sdg (f (o + (n + 1))) * 8 ^ (n + 1) := rfl
    have e2 : pkN f (o + 1) (n + 1) = pkN f (o + 1) n + sdg (f (o + 1 + n)) * 8 ^ n := rfl
    rw [e1, e2, ih, Nat.pow_succ, ← Nat.mul_assoc, show o + 1 + n = o + (n + 1) by omega]
    generalize sdg (f (o + (n + 1))) * 8 ^ n = z
    omega
theorem pk_add (n : Nat) : ∀ j, pkN f o (n + j) = pkN f o n + pkN f (o + n) j * 8 ^ n := by
  intro j
  induction j with
  | zero =>
    show pkN f o n = pkN f o n + 0 * 8 ^ n
    rw [Nat.zero_mul]
    rfl
  | succ j ih =>
    have e1 : pkN f o (n + (j + 1)) = pkN f o (n + j) + sdg (f (o + (n + j))) * 8 ^ (n + j) := rfl
    have e2 : pkN f (o + n) (j + 1) = pkN f (o + n) j + sdg (f (o + n + j)) * 8 ^ j := rfl
    rw [e1, e2, ih, Nat.add_mul, Nat.pow_add, Nat.mul_comm (8 ^ n), ← Nat.mul_assoc, show o + n + j = o + (n + j) by omega, Nat.add_assoc]
theorem pk_bit : ∀ n, (∀ k, k < n → sdg (f (o + k)) < 8) → ∀ i, (pkN f o n).testBit i = (decide (i < 3 * n) && (sdg (f (o + i / 3))).testBit (i % 3)) := by
  intro n
  induction n with
  | zero =>
    intro _ i
    have e : decide (i < 3 * 0) = false := decide_eq_false (by omega)
    rw [e, Bool.false_and]
    exact Nat.zero_testBit i
  | succ n ih =>
    intro h i
    have h0 : ∀ k, k < n → sdg (f (o + k)) < 8 := fun k hk => h k (by omega)
    have h1 := spk_lt n h0
    have e8 : (8 : Nat) ^ n = 2 ^ (3 * n) := by rw [Nat.pow_mul]
    have e : pkN f o (n + 1) = 2 ^ (3 * n) * sdg (f (o + n)) + pkN f o n := by
      show pkN f o n + sdg (f (o + n)) * 8 ^ n = _
      rw [e8, Nat.mul_comm, Nat.add_comm]
    rw [e8] at h1
    rw [e, Nat.testBit_two_pow_mul_add _ h1]
    by_cases c : i < 3 * n
    · rw [if_pos c, ih h0 i, decide_eq_true c, decide_eq_true (show i < 3 * (n + 1) by omega)]
    · rw [if_neg c]
      by_cases c2 : i < 3 * (n + 1)
      · rw [decide_eq_true c2, Bool.true_and, show i / 3 = n by omega, show i % 3 = i - 3 * n by omega]
      · rw [decide_eq_false c2, Bool.false_and]
        have h8 := h n (by omega)
        refine Nat.testBit_lt_two_pow (Nat.lt_of_lt_of_le (show sdg (f (o + n)) < 2 ^ 3 from h8) (Nat.pow_le_pow_right (by decide) (by omega)))
end PKN
theorem SR7.d {f : Nat → Int32} (h : SR7 f) {o n : Nat} (hn : o + n ≤ 32) : ∀ k, k < n → sdg (f (o + k)) < 8 := fun k hk => (sdg_ok (h (o + k) (by omega))).1
theorem pk_inj {f f' : Nat → Int32} (h : SR7 f) (h' : SR7 f') (e0 : pkN f 0 16 = pkN f' 0 16) (e1 : pkN f 16 16 = pkN f' 16 16) : EQ32 f f' := fun k hk => by
  refine sdg_inj (h k hk) (h' k hk) ?_
  by_cases c : k < 16
  · have a := pk_dig 16 (h.d (o := 0) (by decide)) k c
    have b := pk_dig 16 (h'.d (o := 0) (by decide)) k c
    rw [Nat.zero_add] at a b
    rw [← a, ← b, e0]
  · obtain ⟨j, rfl⟩ : ∃ j, k = 16 + j := ⟨k - 16, by omega⟩
    rw [← pk_dig 16 (h.d (o := 16) (by decide)) j (by omega), ← pk_dig 16 (h'.d (o := 16) (by decide)) j (by omega), e1]
theorem mk_inj {f f' : Nat → Int32} (h : SR7 f) (h' : SR7 f') (e0 : mkN f 0 16 = mkN f' 0 16) (e1 : mkN f 16 16 = mkN f' 16 16) : EQ32 f f' := fun k hk => by
  refine sdg_inj (h k hk) (h' k hk) ?_
  by_cases c : k < 16
  · have a := mk_dig 16 (h.d (o := 0) (by decide)) (15 - k) (by omega)
    have b := mk_dig 16 (h'.d (o := 0) (by decide)) (15 - k) (by omega)
    rw [show 0 + (16 - 1 - (15 - k)) = k by omega] at a b
    rw [← a, ← b, e0]
  · obtain ⟨j, rfl⟩ : ∃ j, k = 16 + j := ⟨k - 16, by omega⟩
    have a := mk_dig 16 (h.d (o := 16) (by decide)) (15 - j) (by omega)
    have b := mk_dig 16 (h'.d (o := 16) (by decide)) (15 - j) (by omega)
    rw [show 16 + (16 - 1 - (15 - j)) = 16 + j by omega] at a b
    rw [← a, ← b, e1]
theorem pk_e32 {f f' : Nat → Int32} (h : EQ32 f f') : pkN f 0 16 = pkN f' 0 16 ∧ pkN f 16 16 = pkN f' 16 16 := ⟨pk_ch 16 (fun k hk => h _ (by omega)), pk_ch 16 (fun k hk => h _ (by omega))⟩
theorem mk_e32 {f f' : Nat → Int32} (h : EQ32 f f') : mkN f 0 16 = mkN f' 0 16 ∧ mkN f 16 16 = mkN f' 16 16 := ⟨mk_ch 16 (fun k hk => h _ (by omega)), mk_ch 16 (fun k hk => h _ (by omega))⟩
theorem p816 : (8 : Nat) ^ 16 = 281474976710656 := by decide
theorem pk_48 {f : Nat → Int32} (h : SR7 f) {o : Nat} (ho : o ≤ 16) : pkN f o 16 < 281474976710656 := by have := spk_lt 16 (h.d (o := o) (by omega)); rw [p816] at this; exact this
theorem mk_48 {f : Nat → Int32} (h : SR7 f) {o : Nat} (ho : o ≤ 16) : mkN f o 16 < 281474976710656 := by have := mk_lt 16 (h.d (o := o) (by omega)); rw [p816] at this; exact this
theorem lN_inj {a b : Nat} (ha : a < 281474976710656) (hb : b < 281474976710656) (h : lN a = lN b) : a = b := by
  have := congrArg (fun z => z.toBitVec.toNat) h
  have h1 : (lN a).toBitVec.toNat = a := wb_tn (by omega)
  have h2 : (lN b).toBitVec.toNat = b := wb_tn (by omega)
  exact h1.symm.trans (this.trans h2)
/-- one side's skills put in place of what stood there -/
theorem pk_put {f f' : Nat → Int32} {o j C : Nat} (h : SR7 f) (h' : SR7 f') (ho : o ≤ 16) (hj : j < 4) (hs : ∀ k, k < 16 → k / 4 ≠ j → f (o + k) = f' (o + k)) (hsC : ∀ i, i < 48 → C.testBit i = decide (¬ (12 * j ≤ i ∧ i < 12 * j + 12))) : (pkN f o 16 &&& C) ||| (pkN f' (o + 4 * j) 4 * 2 ^ (12 * j)) = pkN f' o 16 := by
  refine Nat.eq_of_testBit_eq (fun i => ?_)
  rw [Nat.testBit_or, Nat.testBit_and, ← Nat.shiftLeft_eq, Nat.testBit_shiftLeft, pk_bit 16 (h.d (by omega)), pk_bit 16 (h'.d (by omega)), pk_bit 4 (h'.d (by omega))]
  by_cases c : i < 48
  · rw [hsC i c]
    by_cases q : 12 * j ≤ i ∧ i < 12 * j + 12
    · have e1 : decide (¬ (12 * j ≤ i ∧ i < 12 * j + 12)) = false := decide_eq_false (fun z => z q)
      have e2 : decide (i ≥ 12 * j) = true := decide_eq_true q.1
      have e3 : decide (i - 12 * j < 3 * 4) = true := decide_eq_true (by omega)
      have e4 : decide (i < 3 * 16) = true := decide_eq_true (by omega)
      rw [e1, e2, e3, e4, Bool.and_false, Bool.false_or, show o + 4 * j + (i - 12 * j) / 3 = o + i / 3 by omega, show (i - 12 * j) % 3 = i % 3 by omega]
      rfl
    · have e1 : decide (¬ (12 * j ≤ i ∧ i < 12 * j + 12)) = true := decide_eq_true q
      have e4 : decide (i < 3 * 16) = true := decide_eq_true (by omega)
      have e5 : (decide (i ≥ 12 * j) && (decide (i - 12 * j < 3 * 4) && (sdg (f' (o + 4 * j + (i - 12 * j) / 3))).testBit ((i - 12 * j) % 3))) = false := by
        by_cases q2 : 12 * j ≤ i
        · have e3 : decide (i - 12 * j < 3 * 4) = false := decide_eq_false (by omega)
          rw [e3, Bool.false_and, Bool.and_false]
        · have e3 : decide (i ≥ 12 * j) = false := decide_eq_false (by omega)
          rw [e3, Bool.false_and]
      rw [e1, e4, e5, Bool.and_true, Bool.or_false, hs (i / 3) (by omega) (by omega)]
  · have e4 : decide (i < 3 * 16) = false := decide_eq_false (by omega)
    have e3 : decide (i - 12 * j < 3 * 4) = false := decide_eq_false (by omega)
    rw [e3, e4]
    simp
theorem pk_mask : ∀ j, j < 4 → ((lN (4095 * 2 ^ (j * 12))) ^^^ (-1 : Int64)) = lN (2 ^ 64 - 1 - 4095 * 2 ^ (12 * j)) ∧ ∀ i, i < 48 → (2 ^ 64 - 1 - 4095 * 2 ^ (12 * j)).testBit i = decide (¬ (12 * j ≤ i ∧ i < 12 * j + 12)) := by decide +kernel
section PKC
variable {ad : Nat → Nat} {d b ρ : Nat} {m : Wm} {f : Nat → Int32} {p : (Nat → Int32) × (Nat → Int32) × (Nat → Int32) × Int32}
theorem rem4 {s : Nat} (hs : s < 8) : (nI s - nI s / (4 : Int32) * (4 : Int32)) * (12 : Int32) = nI (s % 4 * 12) := by
  rw [show nI s - nI s / (4 : Int32) * (4 : Int32) = nI (s % 4) from nI_rem (G := 4) (by omega) (by decide) (by decide)]
  exact mul_l 12 12 rfl _
theorem sh3 {Y v : Nat} (hv : v < 8) (hY : Y < 281474976710656) : (lN Y <<< ((3 : Int32).toInt64 &&& 63)) ||| (nI v).toInt64 = lN (v + 8 * Y) := by
  rw [show (3 : Int32) = nI 3 from rfl, wb_shl Y (by decide), nI_l (by omega), g_or (k := 3) rfl hv (by omega)]
  rw [Nat.mul_comm Y, Nat.add_comm]
theorem packC (hb : SS b ρ) (h : HC b m (f, p)) (h7 : SR7 f) {s : Nat} (hs : s < 8) : Ct ad μX9_packed (d + 1) [.ref (ad b), .int (nI s)] m (fun r m' => m' = m ∧ r = some (.long (lN (pkN f (4 * s) 4 * 2 ^ (12 * (s % 4)))))) := by
  have D : ∀ a, a < 4 → sdg (f (4 * s + a)) < 8 ∧ f (4 * s + a) = nI (sdg (f (4 * s + a))) := fun a ha => sdg_ok (h7 _ (by omega))
  have P : ∀ n, n ≤ 4 → pkN f (4 * s + (4 - n)) n < 4096 := fun n hn => by
    have := spk_lt (f := f) (o := 4 * s + (4 - n)) n (h7.d (by omega))
    have h2 : (8 : Nat) ^ n ≤ 8 ^ 4 := Nat.pow_le_pow_right (by decide) hn
    have h3 : (8 : Nat) ^ 4 = 4096 := by decide
    omega
  have S : ∀ (a : Nat) (n : Nat) (x x' : Int32), a + n + 1 = 4 → x = nI a → x' = x + (-1 : Int32) → ¬ x < 0 → AW ad E0 μX9_packed (d + 1) (fun r m' => m' = m ∧ r = some (.long (lN (pkN f (4 * s) 4 * 2 ^ (12 * (s % 4)))))) 5 [(0, .ref (ad b)), (1, .int (nI s)), (2, .long (lN (pkN f (4 * s + a) (n + 1)))), (4, .int x')] [] m → AW ad E0 μX9_packed (d + 1) (fun r m' => m' = m ∧ r = some (.long (lN (pkN f (4 * s) 4 * 2 ^ (12 * (s % 4)))))) 5 [(0, .ref (ad b)), (1, .int (nI s)), (2, .long (lN (pkN f (4 * s + a + 1) n))), (4, .int x)] [] m := by
    intro a n x x' ha hx hx' hx0 K
    refine g_X9_packed_5 hb.1 ⟨fun c => absurd c hx0, fun _ => ?_⟩
    rw [hx]
    refine (skillC (d := d) hb h hs (a := a) (by omega)).to ?_
    rintro _ m1 ⟨eq, rfl⟩
    obtain rfl := eq.symm
    refine ⟨_, rfl, ?_⟩
    have hY := P n (by omega)
    rw [show 4 * s + (4 - n) = 4 * s + a + 1 by omega] at hY
    have e : (lN (pkN f (4 * s + a + 1) n) <<< ((3 : Int32).toInt64 &&& 63)) ||| (f (4 * s + a)).toInt64 = lN (pkN f (4 * s + a) (n + 1)) := by
      rw [(D a (by omega)).2, sh3 (D a (by omega)).1 (by omega), pk_cons]
    show AW ad E0 μX9_packed (d + 1) _ 5 [(0, .ref (ad b)), (1, .int (nI s)), (2, .long ((lN (pkN f (4 * s + a + 1) n) <<< ((3 : Int32).toInt64 &&& 63)) ||| (f (4 * s + a)).toInt64)), (4, .int (nI a + (-1 : Int32)))] [] m
    rw [e, ← hx, ← hx']
    exact K
  refine v_X9_packed hb.1 (S 3 0 3 2 rfl rfl (by decide) (by decide) (S 2 1 2 1 rfl rfl (by decide) (by decide) (S 1 2 1 0 rfl rfl (by decide) (by decide) (S 0 3 0 (-1) rfl rfl (by decide) (by decide) ?_))))
  refine g_X9_packed_5 hb.1 ⟨fun _ => ⟨rfl, ?_⟩, fun c => absurd (by decide) c⟩
  rw [rem4 hs, show 4 * s + 0 = 4 * s from rfl, wb_shl _ (by omega), Nat.mul_comm 12]
theorem withC {W s : Nat} (hs : s < 8) (hW : W < 281474976710656) {m : Wm} : Ct ad μX9_without d [.long (lN W), .int (nI s)] m (fun r m' => m' = m ∧ r = some (.long (lN (W &&& (2 ^ 64 - 1 - 4095 * 2 ^ (12 * (s % 4))))))) := by
  refine v_X9_without ⟨rfl, ?_⟩
  have e : (4095 : Int64) = lN 4095 := rfl
  rw [rem4 hs, e, wb_shl 4095 (by omega), (pk_mask (s % 4) (by omega)).1, wb_and (by omega) (by omega)]
theorem getC {S : Nat} (hA : m.2.1 152 S = lN (pkN f 0 16)) (hB : m.2.1 153 S = lN (pkN f 16 16)) (h7 : SR7 f) (hS : S < 3000) {s a : Nat} (hs : s < 8) (ha : a < 4) : Ct ad μX9_skillIn d [.ref (ad 151), .int (nI S), .int (nI s), .int (nI a)] m (fun r m' => m' = m ∧ r = some (.int (f (4 * s + a)))) := by
  have V : vp_in (nI S) 3000 := nat_in hS (by decide)
  have K : ∀ o, o + 4 * (s % 4) = 4 * s → o ≤ 16 → AW ad E0 μX9_skillIn d (fun r m' => m' = m ∧ r = some (.int (f (4 * s + a)))) 20 [(2, .int (nI s)), (3, .int (nI a))] [.long (lN (pkN f o 16))] m := by
    intro o ho h16
    refine g_X9_skillIn_20 ⟨rfl, ?_⟩
    have h48 := pk_48 h7 h16
    have e3 : (3 : Int32) * nI a = nI (3 * a) := l_mul 3 3 rfl a
    have e8 : (2 : Nat) ^ (s % 4 * 12 + 3 * a) = 8 ^ (4 * (s % 4) + a) := by
      rw [show s % 4 * 12 + 3 * a = 3 * (4 * (s % 4) + a) by omega, Nat.pow_mul]
    rw [rem4 hs, e3, nI_add, wb_shr (by omega) (by omega), lN_i, show (7 : Int32) = nI (2 ^ 3 - 1) from rfl, fa_mask, e8]
    have := pk_dig 16 (h7.d (o := o) (by omega)) (4 * (s % 4) + a) (by omega)
    rw [show o + (4 * (s % 4) + a) = 4 * s + a by omega] at this
    rw [show (2 : Nat) ^ 3 = 8 from rfl, this, ← (sdg_ok (h7 _ (by omega))).2]
  refine v_X9_skillIn ⟨fun c => ⟨V, ?_⟩, fun c => ⟨V, ?_⟩⟩
  · have := (le_l 4 4 rfl (by decide) (by omega)).mp c
    rw [nI_clamp (by omega), hB]
    exact K 16 (by omega) (by decide)
  · have : ¬ 4 ≤ s := fun z => c ((le_l 4 4 rfl (by decide) (by omega)).mpr z)
    rw [nI_clamp (by omega), hA]
    exact K 0 (by omega) (by decide)
theorem unpackC {S : Nat} (w : WT m) (hb : SS b ρ) (hρ : GR ρ) {g : GS} (hA : m.2.1 152 S = lN (pkN f 0 16)) (hB : m.2.1 153 S = lN (pkN f 16 16)) (h7 : SR7 f) (hS : S < 3000) {s : Nat} (hs : s < 8) (h0 : HC b m g) : Ct ad μX9_unpack (d + 1) [.ref (ad 151), .int (nI S), .int (nI s), .ref (ad b)] m (fun r m' => r = none ∧ WT m' ∧ Fx (RS [2, ρ]) m m' ∧ HC b m' (cpS s 4 (f, p) g)) := by
  have L : ∀ (n j : Nat) (m1 : Wm), j + n = 4 → WT m1 → Fx (RS [2, ρ]) m m1 → HC b m1 (cpS s j (f, p) g) → AW ad E0 μX9_unpack (d + 1) (fun r m' => r = none ∧ WT m' ∧ Fx (RS [2, ρ]) m m' ∧ HC b m' (cpS s 4 (f, p) g)) 3 [(0, .ref (ad 151)), (1, .int (nI S)), (2, .int (nI s)), (3, .ref (ad b)), (4, .int (nI j))] [] m1 := by
    intro n
    induction n with
    | zero =>
      intro j m1 hj w1 f1 c0
      obtain rfl : j = 4 := hj
      exact g_X9_unpack_3 hb.1 ⟨fun _ => ⟨rfl, w1, f1, c0⟩, fun c => absurd ((le_l 4 4 rfl (by decide) (by decide)).mpr (by omega)) c⟩
    | succ n ih =>
      intro j m1 hj w1 f1 c0
      have r10 : ∀ a k, ([152, 153] : List Nat).elem a = true → m1.2.1 a k = m.2.1 a k := fun a k ha => (f1 a k (fun q => by
        have ha' : a = 152 ∨ a = 153 := by simpa using List.mem_of_elem_eq_true ha
        have e10 : rg a k = 10 := by rcases ha' with rfl | rfl <;> rfl
        unfold RS at q
        rw [e10] at q
        rcases hρ with rfl | rfl | rfl | rfl | rfl | rfl | rfl <;> exact absurd q (by decide))).2.1
      refine g_X9_unpack_3 hb.1 ⟨fun c => absurd ((le_l 4 4 rfl (by decide) (by omega)).mp c) (by omega), fun _ => (getC (d := d) (f := f) (S := S) ((r10 152 S rfl).trans hA) ((r10 153 S rfl).trans hB) h7 hS hs (a := j) (by omega)).to ?_⟩
      rintro _ m2 ⟨eq, rfl⟩
      obtain rfl := eq.symm
      refine ⟨_, rfl, (putC (d := d) hb hs (a := j) (by omega)).to ?_⟩
      rintro _ m3 ⟨rfl, rfl⟩
      rw [nI_1]
      refine ⟨rfl, ih (j + 1) _ (by omega) (hb.wu w1 (by decide)) (hb.fu f1 (by decide)) (HC.cg c0.sk (fun k hk => ?_) rfl)⟩
      show (if 4 * s ≤ k ∧ k < 4 * s + (j + 1) then f k else g.1 k) = (if k = 4 * s + j then f (4 * s + j) else (if 4 * s ≤ k ∧ k < 4 * s + j then f k else g.1 k))
      by_cases q : k = 4 * s + j
      · rw [if_pos q, if_pos (by omega), q]
      · rw [if_neg q]
        by_cases q2 : 4 * s ≤ k ∧ k < 4 * s + j
        · rw [if_pos q2, if_pos (by omega)]
        · rw [if_neg q2, if_neg (by omega)]
  refine v_X9_unpack hb.1 (L 4 0 m rfl w Fx.rf (h0.cg (fun k _ => ?_) rfl))
  exact if_neg (by omega)
end PKC
section PKM
variable {ad : Nat → Nat} {d : Nat} {m : Wm} {f : Nat → Int32}
theorem halfM (h : ∀ k, k < 32 → m.1 188 k = f k) (h7 : SR7 f) {o : Nat} (ho : o ≤ 16) : Ct ad μX12_half d [.ref (ad 187), .int (nI o)] m (fun r m' => m' = m ∧ r = some (.long (lN (mkN f o 16)))) := by
  have L : ∀ n j : Nat, j + n = 16 → AW ad E0 μX12_half d (fun r m' => m' = m ∧ r = some (.long (lN (mkN f o 16)))) 5 [(0, .ref (ad 187)), (1, .int (nI o)), (2, .long (lN (mkN f o j))), (4, .int (nI j))] [] m := by
    intro n
    induction n with
    | zero =>
      intro j hj
      obtain rfl : j = 16 := hj
      exact g_X12_half_5 ⟨fun _ => ⟨rfl, rfl⟩, fun c => absurd (by decide) c⟩
    | succ n ih =>
      intro j hj
      refine g_X12_half_5 ⟨fun c => absurd ((le_l 16 16 rfl (by decide) (by omega)).mp c) (by omega), fun _ => ?_⟩
      have D := sdg_ok (h7 (o + j) (by omega))
      have B := mk_lt (f := f) (o := o) j (h7.d (by omega))
      have B2 : (8 : Nat) ^ j ≤ 8 ^ 16 := Nat.pow_le_pow_right (by decide) (by omega)
      rw [p816] at B2
      rw [nI_add, nI_clamp (by omega), h (o + j) (by omega), nI_1]
      refine ⟨nat_in (by omega) (by decide), ?_⟩
      have e : (lN (mkN f o j) <<< ((3 : Int32).toInt64 &&& 63)) ||| (f (o + j)).toInt64 = lN (mkN f o (j + 1)) := by
        rw [D.2, sh3 D.1 (by omega)]
        show _ = lN (mkN f o j * 8 + sdg (f (o + j)))
        rw [Nat.mul_comm (mkN f o j), Nat.add_comm]
      rw [e]
      exact ih (j + 1) (by omega)
  exact v_X12_half (L 16 0 rfl)
theorem m7_ok {W k v : Nat} (h : W / 8 ^ k % 8 = v) (hW : W < 281474976710656) : ((lN (W / 8 ^ k)) &&& (7 : Int64)).toInt32 = nI v := by
  have hd : W / 8 ^ k ≤ W := Nat.div_le_self _ _
  rw [show (7 : Int64) = lN (8 - 1) from rfl, g_mask (s := 3) rfl (by decide) (by omega), h, lN_i]
theorem loadM (w : WT m) {S : Nat} (hA : m.2.1 205 S = lN (mkN f 0 16)) (hB : m.2.1 206 S = lN (mkN f 16 16)) (h7 : SR7 f) (hS : S < 3000) : Ct ad μX12_load d [.ref (ad 187), .int (nI S)] m (fun r m' => r = none ∧ WT m' ∧ Fx (RS [24]) m m' ∧ (∀ a k, a ≠ 188 → m'.1 a k = m.1 a k) ∧ ∀ k, k < 32 → m'.1 188 k = f k) := by
  have V : vp_in (nI S) 3000 := nat_in hS (by decide)
  have hW0 := mk_48 h7 (o := 0) (by decide)
  have hW1 := mk_48 h7 (o := 16) (by decide)
  have fin : ∀ (m1 : Wm) (y2 y4 : Int64) (x : Int32), x < 0 → WT m1 → Fx (RS [24]) m m1 → (∀ a k, a ≠ 188 → m1.1 a k = m.1 a k) → (∀ k, k < 32 → m1.1 188 k = f k) → AW ad E0 μX12_load d (fun r m' => r = none ∧ WT m' ∧ Fx (RS [24]) m m' ∧ (∀ a k, a ≠ 188 → m'.1 a k = m.1 a k) ∧ ∀ k, k < 32 → m'.1 188 k = f k) 19 [(0, .ref (ad 187)), (2, .long y2), (4, .long y4), (6, .int x)] [] m1 := fun m1 y2 y4 x hx w1 f1 h1 h2 => g_X12_load_19 ⟨fun _ => ⟨rfl, w1, f1, h1, h2⟩, fun c => absurd hx c⟩
  have L : ∀ n t : Nat, t + n = 15 → ∀ (m1 : Wm), WT m1 → Fx (RS [24]) m m1 → (∀ a k, a ≠ 188 → m1.1 a k = m.1 a k) → (∀ k, 16 - t ≤ k → k < 16 → m1.1 188 k = f k) → (∀ k, 32 - t ≤ k → k < 32 → m1.1 188 k = f k) → AW ad E0 μX12_load d (fun r m' => r = none ∧ WT m' ∧ Fx (RS [24]) m m' ∧ (∀ a k, a ≠ 188 → m'.1 a k = m.1 a k) ∧ ∀ k, k < 32 → m'.1 188 k = f k) 19 [(0, .ref (ad 187)), (2, .long (lN (mkN f 0 16 / 8 ^ t))), (4, .long (lN (mkN f 16 16 / 8 ^ t))), (6, .int (nI n))] [] m1 := by
    intro n
    induction n with
    | zero =>
      intro t ht m1 w1 f1 h1 h2 h3
      obtain rfl : t = 15 := ht
      refine g_X12_load_19 ⟨fun c => absurd c (by decide), fun _ => ⟨nat_in (by decide) (by decide), (show (16 : Int32) + nI 0 = nI 16 from rfl) ▸ nat_in (by decide) (by decide), ?_⟩⟩
      have d0 := mk_dig 16 (h7.d (o := 0) (by decide)) 15 (by decide)
      have d1 := mk_dig 16 (h7.d (o := 16) (by decide)) 15 (by decide)
      have e0 : ((lN (mkN f 0 16 / 8 ^ 15)) &&& (7 : Int64)).toInt32 = f 0 := (m7_ok d0 hW0).trans (sdg_ok (h7 0 (by decide))).2.symm
      have e1 : ((lN (mkN f 16 16 / 8 ^ 15)) &&& (7 : Int64)).toInt32 = f 16 := (m7_ok d1 hW1).trans (sdg_ok (h7 16 (by decide))).2.symm
      rw [e0, e1]
      have c0 : (nI 0).toNatClampNeg = 0 := rfl
      have c1 : ((16 : Int32) + nI 0).toNatClampNeg = 16 := rfl
      rw [c0, c1]
      refine fin _ _ _ _ (by decide) ((w1.n rfl).n rfl) ((f1.i rfl).i rfl) (fun a k ha => (u_ne (fun z => ha z.1)).trans ((u_ne (fun z => ha z.1)).trans (h1 a k ha))) (fun k hk => ?_)
      by_cases q1 : k = 16
      · subst q1; exact u_eq
      · refine (u_ne (fun z => q1 z.2)).trans ?_
        by_cases q0 : k = 0
        · subst q0; exact u_eq
        · refine (u_ne (fun z => q0 z.2)).trans ?_
          by_cases q : k < 16
          · exact h2 k (by omega) q
          · exact h3 k (by omega) hk
    | succ n ih =>
      intro t ht m1 w1 f1 h1 h2 h3
      refine g_X12_load_19 ⟨fun c => absurd ((l_lt 0 0 rfl (by decide) (by omega)).mp c) (by omega), fun _ => ?_⟩
      have d0 := mk_dig 16 (h7.d (o := 0) (by decide)) t (by omega)
      have d1 := mk_dig 16 (h7.d (o := 16) (by decide)) t (by omega)
      rw [show 0 + (16 - 1 - t) = n + 1 by omega] at d0
      rw [show 16 + (16 - 1 - t) = 16 + (n + 1) by omega] at d1
      have e0 : ((lN (mkN f 0 16 / 8 ^ t)) &&& (7 : Int64)).toInt32 = f (n + 1) := (m7_ok d0 hW0).trans (sdg_ok (h7 _ (by omega))).2.symm
      have e1 : ((lN (mkN f 16 16 / 8 ^ t)) &&& (7 : Int64)).toInt32 = f (16 + (n + 1)) := (m7_ok d1 hW1).trans (sdg_ok (h7 _ (by omega))).2.symm
      have s0 : ∀ W : Nat, W < 281474976710656 → lN (W / 8 ^ t) >>> ((3 : Int32).toInt64 &&& 63) = lN (W / 8 ^ (t + 1)) := fun W hW => by
        have hd : W / 8 ^ t ≤ W := Nat.div_le_self _ _
        rw [pf_shr (d := 3) (by decide) (by omega), Nat.div_div_eq_div_mul, show (2 : Nat) ^ 3 = 8 from rfl, ← Nat.pow_succ]
      have ex : (16 : Int32) + nI (n + 1) = nI (16 + (n + 1)) := by
        rw [show (16 : Int32) = nI 16 from rfl, nI_add]
      have em : nI (n + 1) + (-1 : Int32) = nI n := by
        have := nI_sb (a := n + 1) (b := 1) (by omega) (by omega)
        rw [Int32.sub_eq_add_neg] at this
        exact this
      rw [e0, e1, s0 _ hW0, s0 _ hW1, ex, em, nI_clamp (by omega), nI_clamp (by omega)]
      refine ⟨nat_in (by omega) (by decide), nat_in (by omega) (by decide), ih (t + 1) (by omega) _ ((w1.n rfl).n rfl) ((f1.i rfl).i rfl) (fun a k ha => (u_ne (fun z => ha z.1)).trans ((u_ne (fun z => ha z.1)).trans (h1 a k ha))) (fun k k1 k2 => ?_) (fun k k1 k2 => ?_)⟩
      · refine (u_ne (fun z => by omega)).trans ?_
        by_cases q0 : k = n + 1
        · subst q0; exact u_eq
        · exact (u_ne (fun z => q0 z.2)).trans (h2 k (by omega) k2)
      · by_cases q1 : k = 16 + (n + 1)
        · subst q1; exact u_eq
        · exact (u_ne (fun z => q1 z.2)).trans ((u_ne (fun z => by omega)).trans (h3 k (by omega) k2))
  refine v_X12_load ⟨V, V, ?_⟩
  rw [nI_clamp (by omega), hA, hB]
  have := L 15 0 rfl m w Fx.rf (fun _ _ _ => rfl) (fun k k1 k2 => absurd k2 (by omega)) (fun k k1 k2 => absurd k2 (by omega))
  rw [Nat.pow_zero, Nat.div_one, Nat.div_one] at this
  exact this
theorem getM {S : Nat} (hA : m.2.1 205 S = lN (mkN f 0 16)) (hB : m.2.1 206 S = lN (mkN f 16 16)) (h7 : SR7 f) (hS : S < 3000) {s a : Nat} (hs : s < 8) (ha : a < 4) : Ct ad μX12_skillIn d [.ref (ad 187), .int (nI S), .int (nI s), .int (nI a)] m (fun r m' => m' = m ∧ r = some (.int (f (4 * s + a)))) := by
  have V : vp_in (nI S) 3000 := nat_in hS (by decide)
  have K : ∀ o, o + (4 * s + a) % 16 = 4 * s + a → o ≤ 16 → AW ad E0 μX12_skillIn d (fun r m' => m' = m ∧ r = some (.int (f (4 * s + a)))) 29 [(4, .int (nI (4 * s + a)))] [.long (lN (mkN f o 16))] m := by
    intro o ho h16
    refine g_X12_skillIn_29 ⟨rfl, ?_⟩
    have h48 := mk_48 h7 h16
    have e1 : nI (4 * s + a) - nI (4 * s + a) / (16 : Int32) * (16 : Int32) = nI ((4 * s + a) % 16) := nI_rem (G := 16) (by omega) (by decide) (by decide)
    have e2 : (15 : Int32) - nI ((4 * s + a) % 16) = nI (15 - (4 * s + a) % 16) := nI_sb (a := 15) (b := (4 * s + a) % 16) (by omega) (by decide)
    have e3 : (3 : Int32) * nI (15 - (4 * s + a) % 16) = nI (3 * (15 - (4 * s + a) % 16)) := l_mul 3 3 rfl _
    have hsm : ∀ k, k < 64 → (((nI k).toInt64 &&& 63).toBitVec.smod 64).toNat = k := fun k hk => by
      rw [wb_c k hk, wb_tb, wb_sm k hk, BitVec.toNat_ofNat]
      exact Nat.mod_eq_of_lt (by omega)
    rw [e1, e2, e3, pf_shr (hsm _ (by omega)) (by omega), Nat.pow_mul, show (2 : Nat) ^ 3 = 8 from rfl]
    have := mk_dig 16 (h7.d (o := o) (by omega)) (15 - (4 * s + a) % 16) (by omega)
    rw [show o + (16 - 1 - (15 - (4 * s + a) % 16)) = 4 * s + a by omega] at this
    rw [m7_ok this h48, ← (sdg_ok (h7 _ (by omega))).2]
  refine v_X12_skillIn ?_
  rw [m_ix, nI_clamp (by omega), hA, hB]
  refine ⟨fun c => ⟨V, ?_⟩, fun c => ⟨V, ?_⟩⟩
  · have := (le_l 16 16 rfl (by decide) (by omega)).mp c
    exact K 16 (by omega) (by decide)
  · have : ¬ 16 ≤ 4 * s + a := fun z => c ((le_l 16 16 rfl (by decide) (by omega)).mpr z)
    exact K 0 (by omega) (by decide)
end PKM
end
section
/-! A TABLE OF PLACES: each state in the first place from its own on that was free -/
def TB (T : Nat → Int32) (N : Nat) (A B : Nat → Int64) (H : Int64 → Int64 → Nat) : Prop :=
  N ≤ 3000 ∧ czf T 8192 ≤ N ∧ (∀ i, i < N → ∃ p, p < 8192 ∧ T ((H (A i) (B i) + p) % 8192) = nI (i + 1) ∧ ∀ q, q < p → T ((H (A i) (B i) + q) % 8192) ≠ 0) ∧
  (∀ s, s < 8192 → T s = 0 ∨ ∃ i, i < N ∧ T s = nI (i + 1)) ∧ ∀ i j, i < N → j < N → A i = A j → B i = B j → i = j
section TBL
variable {T T' : Nat → Int32} {N : Nat} {A B A' B' : Nat → Int64} {H : Int64 → Int64 → Nat} {a b : Int64}
theorem nI_s0 {i : Nat} (hi : i < 3000) : nI (i + 1) ≠ 0 := fun q => by
  have := (nI_eq (a := i + 1) (b := 0) (by omega) (by decide)).mp q
  omega
theorem nI_si {i j : Nat} (hi : i < 3000) (hj : j < 3000) (h : nI (i + 1) = nI (j + 1)) : i = j := by
  have := (nI_eq (a := i + 1) (b := j + 1) (by omega) (by omega)).mp h
  omega
theorem TB.zero (t : TB T N A B H) (h : Nat) : ∃ p, p < 8192 ∧ T ((h + p) % 8192) = 0 := by
  obtain ⟨t1, t2, -⟩ := t
  obtain ⟨z, hz, e⟩ := czf_ex 8192 (f := T) (by omega)
  refine ⟨(z + 8192 - h % 8192) % 8192, Nat.mod_lt _ (by decide), ?_⟩
  rw [show (h + (z + 8192 - h % 8192) % 8192) % 8192 = z by omega]
  exact e
theorem TB.miss (t : TB T N A B H) {p : Nat} (hz : T ((H a b + p) % 8192) = 0) (hv : ∀ q, q < p → ∀ i, i < N → T ((H a b + q) % 8192) = nI (i + 1) → ¬ (A i = a ∧ B i = b)) : ∀ i, i < N → ¬ (A i = a ∧ B i = b) := by
  intro i hi hk
  obtain ⟨t1, -, t3, -⟩ := t
  obtain ⟨p', hp', h1, h2⟩ := t3 i hi
  rw [hk.1, hk.2] at h1 h2
  rcases Nat.lt_trichotomy p' p with c | c | c
  · exact hv p' c i hi h1 hk
  · subst c
    rw [hz] at h1
    exact nI_s0 (by omega) h1.symm
  · exact h2 p c hz
theorem TB.add (t : TB T N A B H) (hN : N < 3000) {p : Nat} (hp : p < 8192) (hz : T ((H a b + p) % 8192) = 0) (hv : ∀ q, q < p → T ((H a b + q) % 8192) ≠ 0) (hn : ∀ i, i < N → ¬ (A i = a ∧ B i = b))
    (e1 : T' ((H a b + p) % 8192) = nI (N + 1)) (e2 : ∀ k, k ≠ (H a b + p) % 8192 → T' k = T k) (a1 : A' N = a) (a2 : ∀ k, k < N → A' k = A k) (b1 : B' N = b) (b2 : ∀ k, k < N → B' k = B k) : TB T' (N + 1) A' B' H := by
  obtain ⟨t1, t2, t3, t4, t5⟩ := t
  have nz : ∀ k, T k ≠ 0 → T' k = T k := fun k hk => e2 k (fun q => hk (by rw [q]; exact hz))
  have nz' : ∀ k, T k ≠ 0 → T' k ≠ 0 := fun k hk => by rw [nz k hk]; exact hk
  refine ⟨by omega, ?_, fun i hi => ?_, fun s hs => ?_, fun i j hi hj h1 h2 => ?_⟩
  · have := (czf_upd (f := T) (g := T') e2 8192).1 (Nat.mod_lt _ (by decide))
    omega
  · by_cases c : i = N
    · subst c
      rw [a1, b1]
      exact ⟨p, hp, e1, fun q hq => nz' _ (hv q hq)⟩
    · obtain ⟨p', hp', h1, h2⟩ := t3 i (by omega)
      rw [a2 i (by omega), b2 i (by omega)]
      exact ⟨p', hp', (nz _ (by rw [h1]; exact nI_s0 (by omega))).trans h1, fun q hq => nz' _ (h2 q hq)⟩
  · by_cases c : s = (H a b + p) % 8192
    · subst c
      exact Or.inr ⟨N, by omega, e1⟩
    · rw [e2 s c]
      rcases t4 s hs with h | ⟨i, hi, h⟩
      · exact Or.inl h
      · exact Or.inr ⟨i, by omega, h⟩
  · by_cases ci : i = N
    · by_cases cj : j = N
      · rw [ci, cj]
      · subst ci
        rw [a1, a2 j (by omega)] at h1
        rw [b1, b2 j (by omega)] at h2
        exact absurd ⟨h1.symm, h2.symm⟩ (hn j (by omega))
    · by_cases cj : j = N
      · subst cj
        rw [a1, a2 i (by omega)] at h1
        rw [b1, b2 i (by omega)] at h2
        exact absurd ⟨h1, h2⟩ (hn i (by omega))
      · rw [a2 i (by omega), a2 j (by omega)] at h1
        rw [b2 i (by omega), b2 j (by omega)] at h2
        exact t5 i j (by omega) (by omega) h1 h2
theorem TB.nil (h : ∀ s, s < 8192 → T s = 0) : TB T 0 A B H := ⟨by decide, by rw [czf_zero 8192 h]; decide, fun i hi => absurd hi (Nat.not_lt_zero i), fun s hs => Or.inl (h s hs), fun i j hi => absurd hi (Nat.not_lt_zero i)⟩
end TBL
def hsC (a b : Int64) : Nat := (((((a * (-7046029254386353131 : Int64)) ^^^ (b * (-4417276706812531889 : Int64))).toUInt64 >>> ((40 : Int32).toInt64.toUInt64 &&& Int64.toUInt64 63)).toInt64).toInt32 &&& (8191 : Int32)).toNatClampNeg
def hsM (a b : Int64) : Nat := ((((a * (-7046029254386353131 : Int64)) ^^^ (b * (-4417276706812531889 : Int64))).toUInt64 >>> ((51 : Int32).toInt64.toUInt64 &&& Int64.toUInt64 63)).toInt64).toInt32.toNatClampNeg
theorem hsC_in (a b : Int64) : hsC a b < 8192 ∧ (((((a * (-7046029254386353131 : Int64)) ^^^ (b * (-4417276706812531889 : Int64))).toUInt64 >>> ((40 : Int32).toInt64.toUInt64 &&& Int64.toUInt64 63)).toInt64).toInt32 &&& (8191 : Int32)) = nI (hsC a b) := by
  unfold hsC
  generalize ((((a * (-7046029254386353131 : Int64)) ^^^ (b * (-4417276706812531889 : Int64))).toUInt64 >>> ((40 : Int32).toInt64.toUInt64 &&& Int64.toUInt64 63)).toInt64).toInt32 = x
  have h := t_and8191 x
  generalize x &&& (8191 : Int32) = y at h ⊢
  obtain ⟨j, hj, rfl⟩ := zn_of h.1
  rw [nI_toInt hj] at h
  rw [nI_clamp hj]
  exact ⟨by omega, rfl⟩
theorem hsM_in (a b : Int64) : hsM a b < 8192 ∧ ((((a * (-7046029254386353131 : Int64)) ^^^ (b * (-4417276706812531889 : Int64))).toUInt64 >>> ((51 : Int32).toInt64.toUInt64 &&& Int64.toUInt64 63)).toInt64).toInt32 = nI (hsM a b) := by
  unfold hsM
  obtain ⟨v, hv, e⟩ := hash_in ((a * (-7046029254386353131 : Int64)) ^^^ (b * (-4417276706812531889 : Int64))).toUInt64
  rw [e, nI_clamp (by omega)]
  exact ⟨hv, rfl⟩
def TBC (m : Wm) (N : Nat) : Prop := SWc m N ∧ TB (m.1 154) N (m.2.1 152) (m.2.1 153) hsC
def TBM (m : Wm) (N : Nat) : Prop := m.1 187 43 = nI N ∧ TB (m.1 210) N (m.2.1 205) (m.2.1 206) hsM
section TBX
variable {ad : Nat → Nat} {d N : Nat} {m m' : Wm} {S : List Nat} {a b : Int64}
theorem TBC.fx (h : TBC m N) (f : Fx (RS S) m m') (e : S.elem 10 = false) : TBC m' N := by
  refine ⟨h.1.fx f e, ?_⟩
  rw [(fx_cl (a := 154) (ρ := 10) f (fun _ => rfl) e).1, (fx_cl (a := 152) (ρ := 10) f (fun _ => rfl) e).2, (fx_cl (a := 153) (ρ := 10) f (fun _ => rfl) e).2]
  exact h.2
theorem TBM.fx (h : TBM m N) (f : Fx (RS S) m m') (e : S.elem 35 = false) : TBM m' N := by
  refine ⟨(f.at (a := 187) (k := 43) (nRS (ρ := 35) e rfl)).trans h.1, ?_⟩
  rw [(fx_cl (a := 210) (ρ := 35) f (fun _ => rfl) e).1, (fx_cl (a := 205) (ρ := 35) f (fun _ => rfl) e).2, (fx_cl (a := 206) (ρ := 35) f (fun _ => rfl) e).2]
  exact h.2
/-! the class: all places emptied; a state looked up or put -/
theorem clearC (w : WT m) (h : SWc m N) : Ct ad μX9_clear d [.ref (ad 151)] m (fun r m' => r = none ∧ WT m' ∧ Fx (RS [10]) m m' ∧ TBC m' 0) := by
  obtain ⟨h1, h2, h3⟩ := h
  have L : ∀ (n j : Nat) (m1 : Wm), j + n = N → WT m1 → Fx (RS [10]) m m1 → m1.1 151 4 = nI N → (∀ s, s < 8192 → m1.1 154 s ≠ 0 → ∃ i, j ≤ i ∧ i < N ∧ m1.1 155 i = nI s) → AW ad E0 μX9_clear d (fun r m' => r = none ∧ WT m' ∧ Fx (RS [10]) m m' ∧ TBC m' 0) 2 [(0, .ref (ad 151)), (1, .int (nI j))] [] m1 := by
    intro n
    induction n with
    | zero =>
      intro j m1 hj w1 f1 e1 hz
      obtain rfl : j = N := hj
      have z : ∀ s, s < 8192 → m1.1 154 s = 0 := fun s hs => by
        by_cases c : m1.1 154 s = 0
        · exact c
        · obtain ⟨i, i1, i2, -⟩ := hz s hs c
          omega
      refine g_X9_clear_2 ⟨fun _ => ⟨rfl, w1.t rfl (by decide) (by decide), f1.i rfl, ⟨by decide, rfl, fun s hs c => absurd (z s hs) c⟩, TB.nil (fun s hs => z s hs)⟩, fun c => absurd (by rw [e1]; exact (nI_leI (by omega) (by omega)).mpr (Nat.le_refl _)) c⟩
    | succ n ih =>
      intro j m1 hj w1 f1 e1 hz
      obtain ⟨s0, es, -, -, hs0, -⟩ := w1.nat (a := 155) (k := j) rfl (by decide)
      refine g_X9_clear_2 ⟨fun c => absurd (by rw [e1] at c; exact (nI_leI (by omega) (by omega)).mp c) (by omega), fun _ => ?_⟩
      rw [nI_clamp (by omega), es, nI_clamp (by omega), nI_1]
      refine ⟨nat_in (by omega) (by decide), nat_in (by omega) (by decide), ih (j + 1) _ (by omega) (w1.t rfl (by decide) (by decide)) (f1.i rfl) e1 (fun s hs c => ?_)⟩
      have hne : s ≠ s0 := fun q => c (by rw [q]; exact u_eq)
      have c' : m1.1 154 s ≠ 0 := fun q => c ((u_ne (fun z => hne z.2)).trans q)
      obtain ⟨i, i1, i2, i3⟩ := hz s hs c'
      refine ⟨i, ?_, i2, i3⟩
      by_cases q : i = j
      · subst q
        rw [es] at i3
        exact absurd ((nI_eq (by omega) (by omega)).mp i3).symm hne
      · omega
  exact v_X9_clear (L N 0 m (by omega) w Fx.rf h2 (fun s hs c => by obtain ⟨i, i1, i2⟩ := h3 s hs c; exact ⟨i, Nat.zero_le _, i1, i2⟩))
/-- looked up: there it is; or it came behind the others; or there is no room -/
def PtQ (m : Wm) (N : Nat) (a b : Int64) (r : Option Value) (m' : Wm) : Prop := WT m' ∧ Fx (RS [10]) m m' ∧ (∀ k, k < N → m'.2.1 152 k = m.2.1 152 k ∧ m'.2.1 153 k = m.2.1 153 k) ∧
  ((∃ i, i < N ∧ m.2.1 152 i = a ∧ m.2.1 153 i = b ∧ r = some (.int (nI i)) ∧ TBC m' N ∧ m'.1 151 5 = 0) ∨
   ((∀ i, i < N → ¬ (m.2.1 152 i = a ∧ m.2.1 153 i = b)) ∧ N = 3000 ∧ r = some (.int (-1)) ∧ TBC m' N) ∨
   ((∀ i, i < N → ¬ (m.2.1 152 i = a ∧ m.2.1 153 i = b)) ∧ N < 3000 ∧ r = some (.int (nI N)) ∧ TBC m' (N + 1) ∧ m'.1 151 5 = 1 ∧ m'.2.1 152 N = a ∧ m'.2.1 153 N = b))
theorem px_l {m : Wm} {a k : Nat} {x : Int64} : (uL m a k x).1 = m.1 := rfl
theorem px_155 {m : Wm} {k : Nat} {x : Int32} : (uI m 155 k x).1 151 4 = m.1 151 4 := u_ne (by omega)
theorem px_154 {m : Wm} {k : Nat} {x : Int32} : (uI m 154 k x).1 151 4 = m.1 151 4 := u_ne (by omega)
theorem px_5 {m : Wm} {x : Int32} : (uI m 151 5 x).1 151 4 = m.1 151 4 := u_ne (by omega)
theorem px_4 {m : Wm} {x : Int32} : (uI m 151 4 x).1 151 4 = x := u_eq
set_option maxHeartbeats 1000000 in
theorem putX (w : WT m) (t : TBC m N) : Ct ad μX9_put d [.ref (ad 151), .long a, .long b] m (PtQ m N a b) := by
  have w0 : WT (uI m 151 5 0) := w.n rfl
  have f0 : Fx (RS [10]) m (uI m 151 5 0) := Fx.rf.i rfl
  have t0 : TBC (uI m 151 5 0) N := t
  obtain ⟨hh, eh⟩ := hsC_in a b
  have hN := t.2.1
  obtain ⟨p0, hp0, ez⟩ := t.2.zero (hsC a b)
  have e43 : (uI m 151 5 0).1 151 4 = nI N := t.1.2.1
  have E101 : ∀ p, p < 8192 → m.1 154 ((hsC a b + p) % 8192) = 0 → (∀ q, q < p → m.1 154 ((hsC a b + q) % 8192) ≠ 0 ∧ ∀ i, i < N → m.1 154 ((hsC a b + q) % 8192) = nI (i + 1) → ¬ (m.2.1 152 i = a ∧ m.2.1 153 i = b)) → AW ad E0 μX9_put d (PtQ m N a b) 101 [(0, .ref (ad 151)), (1, .long a), (3, .long b), (5, .int (nI ((hsC a b + p) % 8192)))] [] (uI m 151 5 0) := by
    intro p hp hz hv
    have miss := t.2.miss (p := p) hz (fun q hq => (hv q hq).2)
    generalize hs0 : (hsC a b + p) % 8192 = s0 at hz
    have hs0' : s0 < 8192 := by rw [← hs0]; exact Nat.mod_lt _ (by decide)
    refine g_X9_put_101 ⟨fun c => ?_, fun c => ?_⟩
    · rw [e43] at c
      have hN3 := (l_lt 3000 3000 rfl (by decide) (by omega)).mp c
      have V : vp_in ((uI m 151 5 0).1 151 4) 3000 := by rw [e43]; exact nat_in hN3 (by decide)
      have fin : ∀ (k : Nat) (y : Int32) (s : Nat), k = N → y = nI N → s = s0 → PtQ m N a b (some (.int ((y + 1) - 1))) (uI (uI (uI (uI (uL (uL (uI m 151 5 0) 152 k a) 153 k b) 155 k (nI s0)) 151 4 (y + 1)) 154 s (y + 1)) 151 5 1) := by
        intro k y s hk hy hs
        subst hk hy hs
        have eS : nI k + 1 - 1 = nI k := by rw [nI_1]; exact nI_sb (a := k + 1) (b := 1) (by omega) (by omega)
        have tk : (nI (k + 1)).toInt = (k : Int) + 1 := by rw [nI_toInt (by omega)]; omega
        have ts : (nI s).toInt = (s : Int) := nI_toInt (by omega)
        rw [eS, nI_1]
        have F : Fx (RS [10]) m (uI (uI (uI (uI (uL (uL (uI m 151 5 0) 152 k a) 153 k b) 155 k (nI s)) 151 4 (nI (k + 1))) 154 s (nI (k + 1))) 151 5 1) := (((((f0.l rfl).l rfl).i rfl).i rfl).i rfl).i rfl
        have W : WT (uI (uI (uI (uI (uL (uL (uI m 151 5 0) 152 k a) 153 k b) 155 k (nI s)) 151 4 (nI (k + 1))) 154 s (nI (k + 1))) 151 5 1) := (((w0.l.l.t (a := 155) rfl (by omega) (by omega)).t (a := 151) rfl (by omega) (by omega)).t (a := 154) rfl (by omega) (by omega)).n rfl
        have cA : ∀ j, (uI (uI (uI (uI (uL (uL (uI m 151 5 0) 152 k a) 153 k b) 155 k (nI s)) 151 4 (nI (k + 1))) 154 s (nI (k + 1))) 151 5 1).2.1 152 j = if j = k then a else m.2.1 152 j := fun j => by
          show (if 152 = 153 ∧ j = k then b else if 152 = 152 ∧ j = k then a else m.2.1 152 j) = _
          rw [if_neg (fun z => absurd z.1 (by decide))]
          by_cases c : j = k
          · rw [if_pos ⟨rfl, c⟩, if_pos c]
          · rw [if_neg (fun z => c z.2), if_neg c]
        have cB : ∀ j, (uI (uI (uI (uI (uL (uL (uI m 151 5 0) 152 k a) 153 k b) 155 k (nI s)) 151 4 (nI (k + 1))) 154 s (nI (k + 1))) 151 5 1).2.1 153 j = if j = k then b else m.2.1 153 j := fun j => by
          show (if 153 = 153 ∧ j = k then b else if 153 = 152 ∧ j = k then a else m.2.1 153 j) = _
          by_cases c : j = k
          · rw [if_pos ⟨rfl, c⟩, if_pos c]
          · rw [if_neg (fun z => c z.2), if_neg (fun z => c z.2), if_neg c]
        have cT : ∀ j, (uI (uI (uI (uI (uL (uL (uI m 151 5 0) 152 k a) 153 k b) 155 k (nI s)) 151 4 (nI (k + 1))) 154 s (nI (k + 1))) 151 5 1).1 154 j = if j = s then nI (k + 1) else m.1 154 j := fun j => by
          refine (u_ne (by omega)).trans ?_
          by_cases c : j = s
          · subst c
            rw [if_pos rfl]
            exact u_eq
          · rw [if_neg c]
            exact (u_ne (fun z => c z.2)).trans ((u_ne (by omega)).trans (u_ne (by omega)))
        have cP : ∀ j, (uI (uI (uI (uI (uL (uL (uI m 151 5 0) 152 k a) 153 k b) 155 k (nI s)) 151 4 (nI (k + 1))) 154 s (nI (k + 1))) 151 5 1).1 155 j = if j = k then nI s else m.1 155 j := fun j => by
          refine (u_ne (by omega)).trans ((u_ne (by omega)).trans ((u_ne (by omega)).trans ?_))
          by_cases c : j = k
          · subst c
            rw [if_pos rfl]
            exact u_eq
          · rw [if_neg c]
            exact u_ne (fun z => c z.2)
        refine ⟨W, F, fun j hj => ⟨by rw [cA, if_neg (by omega)], by rw [cB, if_neg (by omega)]⟩, Or.inr (Or.inr ⟨miss, hN3, rfl, ⟨⟨by omega, (u_ne (by omega)).trans ((u_ne (by omega)).trans u_eq), fun j hj c => ?_⟩, ?_⟩, u_eq, by rw [cA, if_pos rfl], by rw [cB, if_pos rfl]⟩)⟩
        · rw [cT] at c
          by_cases q : j = s
          · exact ⟨k, by omega, by rw [cP, if_pos rfl, q]⟩
          · rw [if_neg q] at c
            obtain ⟨i, i1, i2⟩ := t.1.2.2 j hj c
            exact ⟨i, by omega, by rw [cP, if_neg (by omega)]; exact i2⟩
        · refine t.2.add (p := p) hN3 hp (by rw [hs0]; exact hz) (fun q hq => (hv q hq).1) miss ?_ (fun j hj => ?_) (by rw [cA, if_pos rfl]) (fun j hj => by rw [cA, if_neg (by omega)]) (by rw [cB, if_pos rfl]) (fun j hj => by rw [cB, if_neg (by omega)])
          · rw [hs0, cT, if_pos rfl]
          · rw [hs0] at hj
            rw [cT, if_neg hj]
      refine ⟨V, V, V, nat_in hs0' (by decide), ?_⟩
      simp only [px_l, px_155, px_154, px_5, px_4]
      have e43' : m.1 151 4 = nI N := t.1.2.1
      rw [e43', nI_clamp (n := N) (by omega), nI_clamp (n := s0) (by omega)]
      exact fin N (nI N) s0 rfl rfl rfl
    · rw [e43] at c
      have hN3 : N = 3000 := by
        have : ¬ N < 3000 := fun z => c ((l_lt 3000 3000 rfl (by decide) (by omega)).mpr z)
        omega
      exact ⟨w0, f0, fun _ _ => ⟨rfl, rfl⟩, Or.inr (Or.inl ⟨miss, hN3, rfl, t0⟩)⟩
  have L : ∀ n p : Nat, p + n = p0 → (∀ q, q < p → m.1 154 ((hsC a b + q) % 8192) ≠ 0 ∧ ∀ i, i < N → m.1 154 ((hsC a b + q) % 8192) = nI (i + 1) → ¬ (m.2.1 152 i = a ∧ m.2.1 153 i = b)) → AW ad E0 μX9_put d (PtQ m N a b) 29 [(0, .ref (ad 151)), (1, .long a), (3, .long b), (5, .int (nI ((hsC a b + p) % 8192))), (6, .int (nI p))] [] (uI m 151 5 0) := by
    intro n
    induction n with
    | zero =>
      intro p hp hv
      obtain rfl : p = p0 := hp
      have hs : (hsC a b + p) % 8192 < 8192 := Nat.mod_lt _ (by decide)
      refine g_X9_put_29 ⟨fun c => absurd ((le_l 8192 8192 rfl (by decide) (by omega)).mp c) (by omega), fun _ => ⟨nat_in hs (by decide), fun _ => E101 p hp0 ez hv, fun c => absurd ?_ c⟩⟩
      rw [nI_clamp (by omega)]
      exact ez
    | succ n ih =>
      intro p hp hv
      have hs : (hsC a b + p) % 8192 < 8192 := Nat.mod_lt _ (by decide)
      refine g_X9_put_29 ⟨fun c => absurd ((le_l 8192 8192 rfl (by decide) (by omega)).mp c) (by omega), fun _ => ⟨nat_in hs (by decide), fun c => ?_, fun c => ?_⟩⟩
      · rw [nI_clamp (by omega)] at c
        exact E101 p (by omega) c hv
      · rw [nI_clamp (by omega)] at c ⊢
        have c' : m.1 154 ((hsC a b + p) % 8192) ≠ 0 := c
        rcases t.2.2.2.2.1 _ hs with q | ⟨i, hi, ei⟩
        · exact absurd q c'
        have ei' : (uI m 151 5 0).1 154 ((hsC a b + p) % 8192) = nI (i + 1) := ei
        have eS : nI (i + 1) - 1 = nI i := nI_sb (a := i + 1) (b := 1) (by omega) (by omega)
        have V := nat_in hs (by decide)
        have Vi : vp_in (nI i) 3000 := nat_in (by omega) (by decide)
        have nxt : ¬ (m.2.1 152 i = a ∧ m.2.1 153 i = b) → AW ad E0 μX9_put d (PtQ m N a b) 85 [(0, .ref (ad 151)), (1, .long a), (3, .long b), (5, .int (nI ((hsC a b + p) % 8192))), (6, .int (nI p))] [] (uI m 151 5 0) := fun hne => by
          refine g_X9_put_85 ?_
          rw [and8191 hs, nI_1, show ((hsC a b + p) % 8192 + 1) % 8192 = (hsC a b + (p + 1)) % 8192 by omega]
          refine ih (p + 1) (by omega) (fun q hq => ?_)
          by_cases z : q = p
          · subst z
            refine ⟨c', fun j hj ej => ?_⟩
            rw [ei] at ej
            have := nI_si (by omega) (by omega) ej
            subst this
            exact hne
          · exact hv q (by omega)
        rw [ei', eS, nI_clamp (by omega)]
        refine ⟨V, Vi, fun q => nxt (fun z => q ((lg_cmp_eq _ _).mpr z.1)), fun q => ⟨Vi, fun q2 => nxt (fun z => q2 ((lg_cmp_eq _ _).mpr z.2)), fun q2 => ?_⟩⟩
        exact ⟨w0, f0, fun _ _ => ⟨rfl, rfl⟩, Or.inl ⟨i, hi, (lg_cmp_eq _ _).mp q, (lg_cmp_eq _ _).mp q2, rfl, t0, u_eq⟩⟩
  refine v_X9_put ?_
  rw [eh]
  have := L p0 0 (by omega) (fun q hq => absurd hq (Nat.not_lt_zero q))
  rw [show (hsC a b + 0) % 8192 = hsC a b by omega] at this
  exact this
/-! the model -/
theorem slotX (t : TBM m N) : Ct ad μX12_slot d [.ref (ad 187), .long a, .long b] m (fun r m' => m' = m ∧ ∃ v, v < 8192 ∧ r = some (.int (nI v)) ∧
    ((∃ i, i < N ∧ m.1 210 v = nI (i + 1) ∧ m.2.1 205 i = a ∧ m.2.1 206 i = b) ∨ (m.1 210 v = 0 ∧ (∀ i, i < N → ¬ (m.2.1 205 i = a ∧ m.2.1 206 i = b)) ∧ ∃ p, p < 8192 ∧ v = (hsM a b + p) % 8192 ∧ ∀ q, q < p → m.1 210 ((hsM a b + q) % 8192) ≠ 0))) := by
  obtain ⟨hh, eh⟩ := hsM_in a b
  have hN := t.2.1
  obtain ⟨p0, hp0, ez⟩ := t.2.zero (hsM a b)
  have L : ∀ n p : Nat, p + n = p0 → (∀ q, q < p → m.1 210 ((hsM a b + q) % 8192) ≠ 0 ∧ ∀ i, i < N → m.1 210 ((hsM a b + q) % 8192) = nI (i + 1) → ¬ (m.2.1 205 i = a ∧ m.2.1 206 i = b)) → AW ad E0 μX12_slot d (fun r m' => m' = m ∧ ∃ v, v < 8192 ∧ r = some (.int (nI v)) ∧ ((∃ i, i < N ∧ m.1 210 v = nI (i + 1) ∧ m.2.1 205 i = a ∧ m.2.1 206 i = b) ∨ (m.1 210 v = 0 ∧ (∀ i, i < N → ¬ (m.2.1 205 i = a ∧ m.2.1 206 i = b)) ∧ ∃ p, p < 8192 ∧ v = (hsM a b + p) % 8192 ∧ ∀ q, q < p → m.1 210 ((hsM a b + q) % 8192) ≠ 0))) 21 [(0, .ref (ad 187)), (1, .long a), (3, .long b), (7, .int (nI ((hsM a b + p) % 8192)))] [] m := by
    intro n
    induction n with
    | zero =>
      intro p hp hv
      obtain rfl : p = p0 := hp
      have hs : (hsM a b + p) % 8192 < 8192 := Nat.mod_lt _ (by decide)
      refine g_X12_slot_21 ⟨nat_in hs (by decide), fun _ => ⟨rfl, _, hs, rfl, Or.inr ⟨ez, t.2.miss (p := p) ez (fun q hq => (hv q hq).2), p, hp0, rfl, fun q hq => (hv q hq).1⟩⟩, fun c => absurd ?_ c⟩
      rw [nI_clamp (by omega)]
      exact ez
    | succ n ih =>
      intro p hp hv
      have hs : (hsM a b + p) % 8192 < 8192 := Nat.mod_lt _ (by decide)
      have V := nat_in hs (by decide)
      refine g_X12_slot_21 ⟨V, fun c => ?_, fun c => ?_⟩
      · rw [nI_clamp (by omega)] at c
        exact ⟨rfl, _, hs, rfl, Or.inr ⟨c, t.2.miss (p := p) c (fun q hq => (hv q hq).2), p, by omega, rfl, fun q hq => (hv q hq).1⟩⟩
      · rw [nI_clamp (by omega)] at c ⊢
        rcases t.2.2.2.2.1 _ hs with q | ⟨i, hi, ei⟩
        · exact absurd q c
        have eS : nI (i + 1) - 1 = nI i := nI_sb (a := i + 1) (b := 1) (by omega) (by omega)
        have Vi : vp_in (nI i) 3000 := nat_in (by omega) (by decide)
        have nxt : ¬ (m.2.1 205 i = a ∧ m.2.1 206 i = b) → AW ad E0 μX12_slot d (fun r m' => m' = m ∧ ∃ v, v < 8192 ∧ r = some (.int (nI v)) ∧ ((∃ i, i < N ∧ m.1 210 v = nI (i + 1) ∧ m.2.1 205 i = a ∧ m.2.1 206 i = b) ∨ (m.1 210 v = 0 ∧ (∀ i, i < N → ¬ (m.2.1 205 i = a ∧ m.2.1 206 i = b)) ∧ ∃ p, p < 8192 ∧ v = (hsM a b + p) % 8192 ∧ ∀ q, q < p → m.1 210 ((hsM a b + q) % 8192) ≠ 0))) 69 [(0, .ref (ad 187)), (1, .long a), (3, .long b), (7, .int (nI ((hsM a b + p) % 8192)))] [] m := fun hne => by
          refine g_X12_slot_69 ?_
          rw [and8191 hs, show ((hsM a b + p) % 8192 + 1) % 8192 = (hsM a b + (p + 1)) % 8192 by omega]
          refine ih (p + 1) (by omega) (fun q hq => ?_)
          by_cases z : q = p
          · subst z
            refine ⟨c, fun j hj ej => ?_⟩
            rw [ei] at ej
            have := nI_si (by omega) (by omega) ej
            subst this
            exact hne
          · exact hv q (by omega)
        rw [ei, eS, nI_clamp (by omega)]
        exact ⟨V, Vi, fun q => nxt (fun z => q ((lg_cmp_eq _ _).mpr z.1)), fun q => ⟨V, Vi, fun q2 => ⟨rfl, _, hs, rfl, Or.inl ⟨i, hi, ei, (lg_cmp_eq _ _).mp q, (lg_cmp_eq _ _).mp q2⟩⟩, fun q2 => nxt (fun z => q2 ((lg_cmp_eq _ _).mpr z.2))⟩⟩
  refine v_X12_slot ?_
  rw [eh]
  have := L p0 0 (by omega) (fun q hq => absurd hq (Nat.not_lt_zero q))
  rw [show (hsM a b + 0) % 8192 = hsM a b by omega] at this
  exact this
def SnQ (m : Wm) (N : Nat) (a b : Int64) (x1 : Int32) (r : Option Value) (m' : Wm) : Prop := WT m' ∧ Fx (RS [35]) m m' ∧ ST m' ∧ (∀ k, k < N → m'.2.1 205 k = m.2.1 205 k ∧ m'.2.1 206 k = m.2.1 206 k ∧ m'.1 207 k = m.1 207 k) ∧
  ((∃ i, i < N ∧ m.2.1 205 i = a ∧ m.2.1 206 i = b ∧ r = some (.int (nI i)) ∧ TBM m' N) ∨
   ((∀ i, i < N → ¬ (m.2.1 205 i = a ∧ m.2.1 206 i = b)) ∧ N = 3000 ∧ r = some (.int (-1)) ∧ TBM m' N) ∨
   ((∀ i, i < N → ¬ (m.2.1 205 i = a ∧ m.2.1 206 i = b)) ∧ N < 3000 ∧ r = some (.int (nI N)) ∧ TBM m' (N + 1) ∧ m'.2.1 205 N = a ∧ m'.2.1 206 N = b ∧ (x1 = -1 → m'.1 207 N = 0) ∧ ∀ p, p < N → x1 = nI p → m'.1 207 N = m.1 207 p + 1))
set_option maxHeartbeats 1000000 in
theorem stateNowX {f : Nat → Int32} {x1 x2 : Int32} (w : WT m) (s : ST m) (t : TBM m N) (hf : ∀ k, k < 32 → m.1 188 k = f k) (h7 : SR7 f) (i1 : x1 = -1 ∨ ∃ p, p < N ∧ x1 = nI p) : Ct ad μX12_stateNow (d + 1) [.ref (ad 187), .int x1, .int x2, .int 3000] m (SnQ m N (lN (mkN f 0 16)) (lN (mkN f 16 16)) x1) := by
  have zn1 : (-1 : Int32).toInt = -1 := rfl
  have z0 : (0 : Int32).toInt = 0 := rfl
  have hN := t.2.1
  have en := t.1
  have hA := halfM (ad := ad) (d := d) hf h7 (o := 0) (by decide)
  have hB := halfM (ad := ad) (d := d) hf h7 (o := 16) (by decide)
  refine v_X12_stateNow (hA.to ?_)
  rintro _ m1 ⟨eq, rfl⟩
  obtain rfl := eq.symm
  refine ⟨_, rfl, hB.to ?_⟩
  rintro _ m1 ⟨eq, rfl⟩
  obtain rfl := eq.symm
  generalize lN (mkN f 0 16) = a
  generalize lN (mkN f 16 16) = b
  refine ⟨_, rfl, (slotX (a := a) (b := b) t).to ?_⟩
  rintro _ m1 ⟨eq, v, hv, rfl, hr⟩
  obtain rfl := eq.symm
  refine ⟨_, rfl, nat_in hv (by decide), fun hz => ?_, fun hz => ?_⟩
  · rw [nI_clamp (by omega)] at hz
    obtain ⟨miss, p, hp, ep, hch⟩ : (∀ i, i < N → ¬ (m.2.1 205 i = a ∧ m.2.1 206 i = b)) ∧ ∃ p, p < 8192 ∧ v = (hsM a b + p) % 8192 ∧ ∀ q, q < p → m.1 210 ((hsM a b + q) % 8192) ≠ 0 := by
      rcases hr with ⟨i, hi, ei, -⟩ | ⟨-, h2⟩
      · rw [hz] at ei
        exact absurd ei.symm (nI_s0 (by omega))
      · exact h2
    refine ⟨fun h3 => ?_, fun h3 => ?_⟩
    · have hN3 : N < 3000 := by
        have : N ≠ 3000 := fun q => h3 (by rw [en, q]; rfl)
        omega
      have V : vp_in (m.1 187 43) 3000 := by rw [en]; exact nat_in hN3 (by decide)
      have cn : (m.1 187 43).toNatClampNeg = N := by rw [en, nI_clamp (by omega)]
      have fin : ∀ (Q : Option Value → Wm → Prop) (D : Int32) (k : Nat) (y : Int32), k = N → y = nI N → Q (some (.int (nI N))) (snM m N v a b x1 x2 D) → AW ad E0 μX12_stateNow (d + 1) Q 122 [(0, .ref (ad 187)), (8, .int (nI v))] [.int D, .int y, .ref (ad 207)] (uI (uI (uL (uL m 205 k a) 206 k b) 208 k x1) 209 k x2) := by
        intro Q D k y hk hy hq
        rw [hk, hy]
        refine g_X12_stateNow_122 (e2 := 207) ly_207 ⟨nat_in (by omega) (by decide), nat_in hv (by decide), ?_⟩
        rw [nI_clamp (by omega), nI_clamp (by omega)]
        show Q (some (.int (m.1 187 43 + 1 - 1))) (uI (uI (uI (uI (uI (uL (uL m 205 N a) 206 N b) 208 N x1) 209 N x2) 207 N D) 187 43 (m.1 187 43 + 1)) 210 v (m.1 187 43 + 1))
        have eS : nI N + 1 - 1 = nI N := by rw [nI_1]; exact nI_sb (a := N + 1) (b := 1) (by omega) (by omega)
        rw [en, eS, nI_1]
        exact hq
      have fin2 : ∀ D : Int32, 0 ≤ D.toInt → D.toInt ≤ (N : Int) → (D.toInt = 0 ∨ ∃ p : Nat, x1 = nI p ∧ p < N ∧ D.toInt = (m.1 207 p).toInt + 1) → (-1 ≤ x1.toInt ∧ x1.toInt ≤ 2999) → (x1 = -1 → D = 0) → (∀ p, p < N → x1 = nI p → D = m.1 207 p + 1) → SnQ m N a b x1 (some (.int (nI N))) (snM m N v a b x1 x2 D) := by
        intro D hD1 hD2 hD hx g1 g2
        have F := sn_facts (m := m) (n := N) (v := v) (w2 := a) (w4 := b) (x1 := x1) (x2 := x2) (D := D) w s en hN3 hv hz hx.1 hx.2 hD1 hD2 hD
        have cA : ∀ j, (snM m N v a b x1 x2 D).2.1 205 j = if j = N then a else m.2.1 205 j := fun j => by
          show (if 205 = 206 ∧ j = N then b else if 205 = 205 ∧ j = N then a else m.2.1 205 j) = _
          rw [if_neg (fun z => absurd z.1 (by decide))]
          by_cases c : j = N
          · rw [if_pos ⟨rfl, c⟩, if_pos c]
          · rw [if_neg (fun z => c z.2), if_neg c]
        have cB : ∀ j, (snM m N v a b x1 x2 D).2.1 206 j = if j = N then b else m.2.1 206 j := fun j => by
          show (if 206 = 206 ∧ j = N then b else if 206 = 205 ∧ j = N then a else m.2.1 206 j) = _
          by_cases c : j = N
          · rw [if_pos ⟨rfl, c⟩, if_pos c]
          · rw [if_neg (fun z => c z.2), if_neg (fun z => c z.2), if_neg c]
        have cT : ∀ j, (snM m N v a b x1 x2 D).1 210 j = if j = v then nI (N + 1) else m.1 210 j := fun j => by
          by_cases c : j = v
          · subst c
            rw [if_pos rfl]
            exact u_eq
          · rw [if_neg c]
            exact (u_ne (fun z => c z.2)).trans ((u_ne (by omega)).trans ((u_ne (by omega)).trans ((u_ne (by omega)).trans (u_ne (by omega)))))
        have cD : ∀ j, (snM m N v a b x1 x2 D).1 207 j = if j = N then D else m.1 207 j := fun j => by
          refine (u_ne (by omega)).trans ((u_ne (by omega)).trans ?_)
          by_cases c : j = N
          · subst c
            rw [if_pos rfl]
            exact u_eq
          · rw [if_neg c]
            exact (u_ne (fun z => c z.2)).trans ((u_ne (by omega)).trans (u_ne (by omega)))
        refine ⟨F.1, F.2.1, F.2.2, fun j hj => ⟨by rw [cA, if_neg (by omega)], by rw [cB, if_neg (by omega)], by rw [cD, if_neg (by omega)]⟩, Or.inr (Or.inr ⟨miss, hN3, rfl, ⟨rfl, ?_⟩, by rw [cA, if_pos rfl], by rw [cB, if_pos rfl], fun q => by rw [cD, if_pos rfl]; exact g1 q, fun p hp q => by rw [cD, if_pos rfl]; exact g2 p hp q⟩)⟩
        refine t.2.add (p := p) hN3 hp (by rw [← ep]; exact hz) hch miss ?_ (fun j hj => ?_) (by rw [cA, if_pos rfl]) (fun j hj => by rw [cA, if_neg (by omega)]) (by rw [cB, if_pos rfl]) (fun j hj => by rw [cB, if_neg (by omega)])
        · rw [← ep, cT, if_pos rfl]
        · rw [← ep] at hj
          rw [cT, if_neg hj]
      refine ⟨V, V, V, V, fun hx => ?_, fun hx => ?_⟩
      · obtain ⟨p', hp', rfl⟩ := i1.resolve_left hx
        refine ⟨nat_in (by omega) (by decide), ?_⟩
        have t207 := w.at (a := 207) (k := p') (lo := 0) (hi := (p' : Int)) rfl
        have a1 := ti_addc (x := m.1 207 p') (y := 1) (c := 1) rfl (by omega)
        have tp : (nI p').toInt = (p' : Int) := nI_toInt (by omega)
        refine fin _ _ (m.1 187 43).toNatClampNeg (m.1 187 43) cn en ?_
        have ec : ((uI (uI (uL (uL m 205 (m.1 187 43).toNatClampNeg a) 206 (m.1 187 43).toNatClampNeg b) 208 (m.1 187 43).toNatClampNeg (nI p')) 209 (m.1 187 43).toNatClampNeg x2).1 207 (nI p').toNatClampNeg) = m.1 207 p' := by
          rw [nI_clamp (by omega)]
          exact (u_ne (by omega)).trans (u_ne (by omega))
        have hgo := fin2 (m.1 207 p' + 1) (by omega) (by omega) (Or.inr ⟨p', rfl, hp', a1⟩) ⟨by omega, by omega⟩ (fun q => absurd q hx) (fun p2 hp2 q => by rw [(nI_eq (by omega) (by omega)).mp q])
        rw [← ec] at hgo
        exact hgo
      · refine fin _ _ (m.1 187 43).toNatClampNeg (m.1 187 43) cn en ?_
        exact fin2 0 (by decide) (by rw [z0]; omega) (Or.inl rfl) (by rw [hx, zn1]; omega) (fun _ => rfl) (fun p' hp' q => by
          rw [hx] at q
          have := congrArg Int32.toInt q
          rw [nI_toInt (by omega), zn1] at this
          omega)
    · have h5 : N = 3000 := (nI_eq (a := N) (b := 3000) (by omega) (by decide)).mp (en.symm.trans h3)
      exact ⟨w, Fx.rf, s, fun _ _ => ⟨rfl, rfl, rfl⟩, Or.inr (Or.inl ⟨miss, h5, rfl, t⟩)⟩
  · rw [nI_clamp (by omega)] at hz ⊢
    obtain ⟨i, hi, ei, ea, eb⟩ := hr.resolve_right (fun z => hz z.1)
    have eS : nI (i + 1) - 1 = nI i := nI_sb (a := i + 1) (b := 1) (by omega) (by omega)
    rw [ei, eS]
    exact ⟨nat_in hv (by decide), w, Fx.rf, s, fun _ _ => ⟨rfl, rfl, rfl⟩, Or.inl ⟨i, hi, ea, eb, rfl, t⟩⟩
end TBX
end
section
/-! A SEARCH: the states in the order in which they come -/
/-- how many, their skills, how many games they take -/
abbrev SSt : Type := Nat × (Nat → Nat → Int32) × (Nat → Nat)
def nS (S : SSt) : Nat := S.1
def kS (S : SSt) : Nat → Nat → Int32 := S.2.1
def dS (S : SSt) : Nat → Nat := S.2.2
abbrev PSt : Type := (Nat → Int32) × (Nat → Int32) × (Nat → Int32) × Int32
def eqB (f f' : Nat → Int32) : Bool := (List.range 32).all (fun k => decide (f k = f' k))
def fndB (S : SSt) (f : Nat → Int32) : Bool := (List.range (nS S)).any (fun i => eqB (kS S i) f)
def InS (S : SSt) (f : Nat → Int32) : Prop := ∃ i, i < nS S ∧ EQ32 (kS S i) f
def adS (f : Nat → Int32) (q : Nat) (S : SSt) : SSt := (nS S + 1, (fun i => if i = nS S then f else kS S i), fun i => if i = nS S then q else dS S i)
/-- none: there would be more than 3000 -/
def insS (f : Nat → Int32) (q : Nat) (S : SSt) : Option SSt := if fndB S f = true then some S else if nS S < 3000 then some (adS f q S) else none
/-- a game of two tried in state t -/
def xS (v : EV) (p : PSt) (t w a b : Nat) (S : SSt) : Option SSt := insS (qtG v a b (nI w) (kS S t, p)).1 (dS S t + 1) S
def xB (v : EV) (p : PSt) (t w a : Nat) : Nat → Nat → SSt → Option SSt
  | 0, _, S => some S
  | k + 1, b, S => (xS v p t w a b S).bind (xB v p t w a k (b + 1))
def xA (v : EV) (p : PSt) (t w n : Nat) : Nat → Nat → SSt → Option SSt
  | 0, _, S => some S
  | k + 1, a, S => (xB v p t w a (n - (a + 1)) (a + 1) S).bind (xA v p t w n k (a + 1))
def xW (v : EV) (p : PSt) (t n : Nat) : Nat → Nat → SSt → Option SSt
  | 0, _, S => some S
  | k + 1, w, S => (xA v p t w n n 0 S).bind (xW v p t n k (w + 1))
/-- the class's: done at the first state of which no game is tried -/
def xL (v : EV) (p : PSt) (wi : Nat) : Nat → Nat → SSt → Option SSt
  | 0, _, S => some S
  | k + 1, t, S => if nS S ≤ t then some S else if dS S t < wi then (xW v p t (nE v) 3 0 S).bind (xL v p wi k (t + 1)) else some S
/-- the model's: such states are passed over -/
def xM (v : EV) (p : PSt) (wi : Nat) : Nat → Nat → SSt → Option SSt
  | 0, _, S => some S
  | k + 1, t, S => if nS S ≤ t then some S else if dS S t = wi then xM v p wi k (t + 1) S else (xW v p t (nE v) 3 0 S).bind (xM v p wi k (t + 1))
def s0S (f : Nat → Int32) : SSt := (1, fun _ => f, fun _ => 0)
def srG (v : EV) (g : GS) (wi : Nat) : Option SSt := xL v g.2 wi 3000 0 (s0S g.1)
section SSX
variable {v : EV} {p : PSt} {t w a b q wi n : Nat} {S S' : SSt} {f f' : Nat → Int32}
theorem EQ32.symm (h : EQ32 f f') : EQ32 f' f := fun k hk => (h k hk).symm
theorem EQ32.trans {f'' : Nat → Int32} (h : EQ32 f f') (h' : EQ32 f' f'') : EQ32 f f'' := fun k hk => (h k hk).trans (h' k hk)
theorem eqB_iff : eqB f f' = true ↔ EQ32 f f' := by
  unfold eqB
  rw [List.all_eq_true]
  constructor
  · intro h k hk
    exact of_decide_eq_true (h k (List.mem_range.mpr hk))
  · intro h k hk
    exact decide_eq_true (h k (List.mem_range.mp hk))
theorem fndB_iff : fndB S f = true ↔ InS S f := by
  unfold fndB
  rw [List.any_eq_true]
  constructor
  · rintro ⟨i, hi, h⟩
    exact ⟨i, List.mem_range.mp hi, eqB_iff.mp h⟩
  · rintro ⟨i, hi, h⟩
    exact ⟨i, List.mem_range.mpr hi, eqB_iff.mpr h⟩
theorem InS.eq (h : InS S f) (e : EQ32 f f') : InS S f' := by
  obtain ⟨i, hi, h⟩ := h
  exact ⟨i, hi, h.trans e⟩
theorem insS_in (h : InS S f) : insS f q S = some S := if_pos (fndB_iff.mpr h)
theorem insS_new (h : ¬ InS S f) (hn : nS S < 3000) : insS f q S = some (adS f q S) := by
  unfold insS
  rw [if_neg (fun z => h (fndB_iff.mp z)), if_pos hn]
theorem insS_no (h : ¬ InS S f) (hn : ¬ nS S < 3000) : insS f q S = none := by
  unfold insS
  rw [if_neg (fun z => h (fndB_iff.mp z)), if_neg hn]
theorem adS_n : nS (adS f q S) = nS S + 1 := rfl
theorem adS_k {i : Nat} (hi : i < nS S) : kS (adS f q S) i = kS S i := if_neg (by omega)
theorem adS_d {i : Nat} (hi : i < nS S) : dS (adS f q S) i = dS S i := if_neg (by omega)
theorem adS_kn : kS (adS f q S) (nS S) = f := if_pos rfl
theorem adS_dn : dS (adS f q S) (nS S) = q := if_pos rfl
/-- what was there stays -/
def LeS (S S' : SSt) : Prop := nS S ≤ nS S' ∧ ∀ i, i < nS S → kS S' i = kS S i ∧ dS S' i = dS S i
theorem LeS.rf : LeS S S := ⟨Nat.le_refl _, fun _ _ => ⟨rfl, rfl⟩⟩
theorem LeS.tr {S'' : SSt} (h : LeS S S') (h' : LeS S' S'') : LeS S S'' := ⟨Nat.le_trans h.1 h'.1, fun i hi => ⟨(h'.2 i (Nat.lt_of_lt_of_le hi h.1)).1.trans (h.2 i hi).1, (h'.2 i (Nat.lt_of_lt_of_le hi h.1)).2.trans (h.2 i hi).2⟩⟩
theorem LeS.ad : LeS S (adS f q S) := ⟨Nat.le_succ _, fun _ hi => ⟨adS_k hi, adS_d hi⟩⟩
theorem LeS.i (h : LeS S S') (hi : InS S f) : InS S' f := by
  obtain ⟨i, hi, e⟩ := hi
  exact ⟨i, Nat.lt_of_lt_of_le hi h.1, by rw [(h.2 i hi).1]; exact e⟩
theorem insS_of (h : insS f q S = some S') : (S' = S ∧ InS S f) ∨ (S' = adS f q S ∧ ¬ InS S f ∧ nS S < 3000) := by
  by_cases c : InS S f
  · rw [insS_in c] at h
    exact Or.inl ⟨(Option.some.inj h).symm, c⟩
  · by_cases c2 : nS S < 3000
    · rw [insS_new c c2] at h
      exact Or.inr ⟨(Option.some.inj h).symm, c, c2⟩
    · rw [insS_no c c2] at h
      cases h
theorem insS_le (h : insS f q S = some S') : LeS S S' := by
  rcases insS_of h with ⟨rfl, -⟩ | ⟨rfl, -⟩
  · exact LeS.rf
  · exact LeS.ad
theorem insS_has (h : insS f q S = some S') : InS S' f := by
  rcases insS_of h with ⟨rfl, c⟩ | ⟨rfl, -⟩
  · exact c
  · exact ⟨nS S, Nat.lt_succ_self _, by rw [adS_kn]; exact fun _ _ => rfl⟩
/-- what each game keeps, all of them keep -/
theorem xB_ind {P : SSt → Prop} (hs : ∀ b S S', xS v p t w a b S = some S' → P S → P S') : ∀ k b S S', xB v p t w a k b S = some S' → P S → P S' := by
  intro k
  induction k with
  | zero => intro b S S' h hP; cases h; exact hP
  | succ k ih =>
    intro b S S' h hP
    obtain ⟨S1, h1, h2⟩ := Option.bind_eq_some_iff.mp (show (xS v p t w a b S).bind (xB v p t w a k (b + 1)) = some S' from h)
    exact ih _ _ _ h2 (hs _ _ _ h1 hP)
theorem xA_ind {P : SSt → Prop} (hs : ∀ a b S S', xS v p t w a b S = some S' → P S → P S') : ∀ k a S S', xA v p t w n k a S = some S' → P S → P S' := by
  intro k
  induction k with
  | zero => intro b S S' h hP; cases h; exact hP
  | succ k ih =>
    intro a S S' h hP
    obtain ⟨S1, h1, h2⟩ := Option.bind_eq_some_iff.mp (show (xB v p t w a (n - (a + 1)) (a + 1) S).bind (xA v p t w n k (a + 1)) = some S' from h)
    exact ih _ _ _ h2 (xB_ind (hs a) _ _ _ _ h1 hP)
theorem xW_ind {P : SSt → Prop} (hs : ∀ w a b S S', xS v p t w a b S = some S' → P S → P S') : ∀ k w S S', xW v p t n k w S = some S' → P S → P S' := by
  intro k
  induction k with
  | zero => intro b S S' h hP; cases h; exact hP
  | succ k ih =>
    intro w S S' h hP
    obtain ⟨S1, h1, h2⟩ := Option.bind_eq_some_iff.mp (show (xA v p t w n n 0 S).bind (xW v p t n k (w + 1)) = some S' from h)
    exact ih _ _ _ h2 (xA_ind (hs w) _ _ _ _ h1 hP)
/-- the nearest first -/
def DI (wi t : Nat) (S : SSt) : Prop := (∀ i j, i ≤ j → j < nS S → dS S i ≤ dS S j) ∧ (∀ j, j < nS S → dS S j ≤ wi) ∧ (t < nS S → ∀ j, j < nS S → dS S j ≤ dS S t + 1)
theorem DI.st (h : DI wi t S) (ht : t < nS S) (hw : dS S t < wi) (e : xS v p t w a b S = some S') : DI wi t S' ∧ t < nS S' ∧ dS S' t < wi := by
  obtain ⟨h1, h2, h3⟩ := h
  rcases insS_of e with ⟨rfl, -⟩ | ⟨rfl, -⟩
  · exact ⟨⟨h1, h2, h3⟩, ht, hw⟩
  · rw [adS_n, adS_d ht]
    refine ⟨⟨fun i j hij hj => ?_, fun j hj => ?_, fun _ j hj => ?_⟩, by omega, hw⟩
    · rw [adS_n] at hj
      by_cases c : j = nS S
      · subst c
        rw [adS_dn]
        by_cases c2 : i = nS S
        · subst c2
          rw [adS_dn]
          exact Nat.le_refl _
        · rw [adS_d (by omega)]
          exact h3 ht i (by omega)
      · rw [adS_d (show j < nS S by omega), adS_d (show i < nS S by omega)]
        exact h1 i j hij (by omega)
    · rw [adS_n] at hj
      by_cases c : j = nS S
      · subst c
        rw [adS_dn]
        exact hw
      · rw [adS_d (show j < nS S by omega)]
        exact h2 j (by omega)
    · rw [adS_n] at hj
      rw [adS_d ht]
      by_cases c : j = nS S
      · subst c
        rw [adS_dn]
        exact Nat.le_refl _
      · rw [adS_d (show j < nS S by omega)]
        exact h3 ht j (by omega)
theorem xM_end : ∀ k t, (∀ j, t ≤ j → j < nS S → dS S j = wi) → xM v p wi k t S = some S := by
  intro k
  induction k with
  | zero => intro t _; rfl
  | succ k ih =>
    intro t h
    show (if nS S ≤ t then some S else if dS S t = wi then xM v p wi k (t + 1) S else (xW v p t (nE v) 3 0 S).bind (xM v p wi k (t + 1))) = some S
    by_cases c : nS S ≤ t
    · rw [if_pos c]
    · rw [if_neg c, if_pos (h t (Nat.le_refl _) (by omega))]
      exact ih (t + 1) (fun j h1 h2 => h j (by omega) h2)
theorem xM_L : ∀ k t S, DI wi t S → xM v p wi k t S = xL v p wi k t S := by
  intro k
  induction k with
  | zero => intro t S _; rfl
  | succ k ih =>
    intro t S h
    show (if nS S ≤ t then some S else if dS S t = wi then xM v p wi k (t + 1) S else (xW v p t (nE v) 3 0 S).bind (xM v p wi k (t + 1))) = (if nS S ≤ t then some S else if dS S t < wi then (xW v p t (nE v) 3 0 S).bind (xL v p wi k (t + 1)) else some S)
    by_cases c : nS S ≤ t
    · rw [if_pos c, if_pos c]
    · have ht : t < nS S := by omega
      have h2 := h.2.1 t ht
      rw [if_neg c, if_neg c]
      by_cases c2 : dS S t = wi
      · rw [if_pos c2, if_neg (by omega)]
        refine xM_end k (t + 1) (fun j h3 h4 => ?_)
        have a1 := h.1 t j (by omega) h4
        have a2 := h.2.1 j h4
        omega
      · have hw : dS S t < wi := by omega
        rw [if_neg c2, if_pos hw]
        cases e : xW v p t (nE v) 3 0 S with
        | none => rfl
        | some S1 =>
          have H := xW_ind (P := fun S => DI wi t S ∧ t < nS S ∧ dS S t < wi) (fun w a b S S' e q => q.1.st q.2.1 q.2.2 e) 3 0 S S1 e ⟨h, ht, hw⟩
          refine ih (t + 1) S1 ⟨H.1.1, H.1.2.1, fun h5 j hj => ?_⟩
          have a1 := H.1.2.2 H.2.1 j hj
          have a2 := H.1.1 t (t + 1) (by omega) h5
          omega
theorem srG_M {g : GS} : srG v g wi = xM v g.2 wi 3000 0 (s0S g.1) := (xM_L 3000 0 (s0S g.1) ⟨fun _ _ _ _ => Nat.le_refl _, fun _ _ => Nat.zero_le _, fun _ _ _ => Nat.zero_le _⟩).symm
/-- states are of sides that there are -/
def ZI (v : EV) (S : SSt) : Prop := ∀ i, i < nS S → ∀ p : PSt, ZB v (kS S i, p)
theorem ZI.ins (h : ZI v S) (hf : ∀ p : PSt, ZB v (f, p)) (e : insS f q S = some S') : ZI v S' := by
  rcases insS_of e with ⟨rfl, -⟩ | ⟨rfl, -⟩
  · exact h
  · intro i hi p
    rw [adS_n] at hi
    by_cases c : i = nS S
    · subst c
      rw [adS_kn]
      exact hf p
    · rw [adS_k (by omega)]
      exact h i (by omega) p
theorem ZB.qt {th : Int32} {g : GS} (h : ZB v g) (ha : a < nE v) (hb : b < nE v) (h4 : aE v ≤ 4) : ZB v (qtG v a b th g) := h.stl ha hb h4
theorem ZI.st (h : ZI v S) (ht : t < nS S) (ha : a < nE v) (hb : b < nE v) (h4 : aE v ≤ 4) (e : xS v p t w a b S = some S') : ZI v S' :=
  h.ins (fun p' => ((h t ht p).qt ha hb h4).of rfl) e
theorem ZI.r7 (h : ZI v S) {i : Nat} (hi : i < nS S) : SR7 (kS S i) := (h i hi (fun _ => 0, fun _ => 0, fun _ => 0, 0)).1.2
/-- honest games of the state have been tried: all pairs ahead of this one -/
def HD (v : EV) (p : PSt) (t a b : Nat) (S : SSt) : Prop := ∀ a' b', a' < b' → b' < nE v → (a' < a ∨ (a' = a ∧ b' < b)) → InS S (qtG v a' b' (nI 0) (kS S t, p)).1
def HW (v : EV) (p : PSt) (t w a b : Nat) (S : SSt) : Prop := (w = 0 → HD v p t a b S) ∧ (¬ w = 0 → HD v p t (nE v) 0 S)
theorem HD.le (h : HD v p t a b S) (ht : t < nS S) (l : LeS S S') : HD v p t a b S' := fun a' b' h1 h2 h3 => by
  rw [(l.2 t ht).1]
  exact l.i (h a' b' h1 h2 h3)
theorem HW.st (h : HW v p t w a b S) (ht : t < nS S) (e : xS v p t w a b S = some S') : HW v p t w a (b + 1) S' := by
  have l := insS_le e
  refine ⟨fun hw => fun a' b' h1 h2 h3 => ?_, fun hw => (h.2 hw).le ht l⟩
  by_cases c : a' = a ∧ b' = b
  · obtain ⟨rfl, rfl⟩ := c
    rw [(l.2 t ht).1]
    subst hw
    exact insS_has e
  · exact ((h.1 hw).le ht l) a' b' h1 h2 (by omega)
theorem HW.na (h : HW v p t w a (nE v) S) : HW v p t w (a + 1) (a + 1 + 1) S := ⟨fun hw a' b' h1 h2 h3 => h.1 hw a' b' h1 h2 (by omega), h.2⟩
theorem HW.nw (h : HW v p t w (nE v) b S) : HW v p t (w + 1) 0 (0 + 1) S := by
  refine ⟨fun z => absurd z (by omega), fun _ => ?_⟩
  by_cases hw : w = 0
  · exact fun a' b' h1 h2 h3 => h.1 hw a' b' h1 h2 (Or.inl (by omega))
  · exact h.2 hw
/-- games that lead where another one led -/
theorem xS_same (ht : t < nS S) (h : EQ32 (qtG v a b (nI w) (kS S t, p)).1 (kS S t)) : xS v p t w a b S = some S := insS_in ⟨t, ht, h.symm⟩
theorem xS_honest (h : HW v p t w a b S) (hw : ¬ w = 0) (hab : a < b) (hb : b < nE v) (e : wnG v (kS S t, p) a b (nI w) = wnG v (kS S t, p) a b (nI 0)) : xS v p t w a b S = some S := by
  have h1 := h.2 hw a b hab hb (Or.inl (by omega))
  refine insS_in ?_
  unfold qtG
  rw [e]
  exact h1
theorem xL_le : ∀ k t S S', xL v p wi k t S = some S' → LeS S S' := by
  intro k
  induction k with
  | zero => intro t S S' h; cases h; exact LeS.rf
  | succ k ih =>
    intro t S S' h
    have h' : (if nS S ≤ t then some S else if dS S t < wi then (xW v p t (nE v) 3 0 S).bind (xL v p wi k (t + 1)) else some S) = some S' := h
    by_cases c : nS S ≤ t
    · rw [if_pos c] at h'; cases h'; exact LeS.rf
    · rw [if_neg c] at h'
      by_cases c2 : dS S t < wi
      · rw [if_pos c2] at h'
        obtain ⟨S1, h1, h2⟩ := Option.bind_eq_some_iff.mp h'
        exact (xW_ind (P := LeS S) (fun w a b S1 S2 e q => q.tr (insS_le e)) 3 0 S S1 h1 LeS.rf).tr (ih _ _ _ h2)
      · rw [if_neg c2] at h'; cases h'; exact LeS.rf
theorem srG_pos {g : GS} (h : srG v g wi = some S) : 0 < nS S := Nat.lt_of_lt_of_le Nat.zero_lt_one (xL_le _ _ _ _ h).1
end SSX
end
section
/-! THE SEARCH OF THE CLASS: states in its places, a game's mark of having taught -/
/-- states as they lie in the class -/
def SC (m : Wm) (S : SSt) : Prop := TBC m (nS S) ∧ ∀ i, i < nS S → m.2.1 152 i = lN (pkN (kS S i) 0 16) ∧ m.2.1 153 i = lN (pkN (kS S i) 16 16) ∧ SR7 (kS S i)
def SDp (m : Wm) (S : SSt) : Prop := ∀ i, i < nS S → m.1 165 i = nI (dS S i) ∧ dS S i ≤ i
/-- what a look-up of f comes to -/
def LkQ (m : Wm) (S : SSt) (f : Nat → Int32) (r : Option Value) (m' : Wm) : Prop := WT m' ∧ Fx (RS [10]) m m' ∧
  ((∃ i, i < nS S ∧ EQ32 (kS S i) f ∧ r = some (.int (nI i)) ∧ SC m' S ∧ m'.1 151 5 = 0) ∨
   (¬ InS S f ∧ ¬ nS S < 3000 ∧ r = some (.int (-1)) ∧ SC m' S) ∨
   (¬ InS S f ∧ nS S < 3000 ∧ r = some (.int (nI (nS S))) ∧ m'.1 151 5 = 1 ∧ ∀ q, SC m' (adS f q S)))
theorem G11 : GR 11 := Or.inr (Or.inr (Or.inr (Or.inr (Or.inl rfl))))
theorem G12 : GR 12 := Or.inr (Or.inr (Or.inr (Or.inr (Or.inr (Or.inl rfl)))))
/-- one side's skills taken from f' -/
def mixS (s : Nat) (f f' : Nat → Int32) : Nat → Int32 := fun k => if k / 4 = s then f' k else f k
section SCS
variable {ad : Nat → Nat} {d b ρ t a e : Nat} {m m' m0 : Wm} {g : GS} {v : EV} {p : PSt} {S : SSt} {R : List Nat} {f f' : Nat → Int32}
theorem SC.fx (h : SC m S) (F : Fx (RS R) m m') (e : R.elem 10 = false) : SC m' S := by
  obtain ⟨h1, h2⟩ := h
  refine ⟨h1.fx F e, fun i hi => ?_⟩
  rw [(fx_cl (a := 152) (ρ := 10) F (fun _ => rfl) e).2, (fx_cl (a := 153) (ρ := 10) F (fun _ => rfl) e).2]
  exact h2 i hi
theorem SDp.fx (h : SDp m S) (F : Fx (RS R) m m') (e : R.elem 58 = false) : SDp m' S := fun i hi => ⟨(F.at (nRS (ρ := 58) e rfl)).trans (h i hi).1, (h i hi).2⟩
theorem SC.n (h : SC m S) : nS S ≤ 3000 := h.1.2.1
theorem SC.c4 (h : SC m S) : m.1 151 4 = nI (nS S) := h.1.1.2.1
theorem SC.look {r : Option Value} (h : SC m S) (hf : SR7 f) (q : PtQ m (nS S) (lN (pkN f 0 16)) (lN (pkN f 16 16)) r m') : LkQ m S f r m' := by
  obtain ⟨w, F, hk, q⟩ := q
  have nin : (∀ i, i < nS S → ¬ (m.2.1 152 i = lN (pkN f 0 16) ∧ m.2.1 153 i = lN (pkN f 16 16))) → ¬ InS S f := fun q ⟨i, hi, e⟩ => by
    obtain ⟨a1, a2, a3⟩ := h.2 i hi
    obtain ⟨e1, e2⟩ := pk_e32 e
    exact q i hi ⟨by rw [a1, e1], by rw [a2, e2]⟩
  have old : TBC m' (nS S) → SC m' S := fun t => ⟨t, fun i hi => by rw [(hk i hi).1, (hk i hi).2]; exact h.2 i hi⟩
  refine ⟨w, F, ?_⟩
  rcases q with ⟨i, hi, q1, q2, rfl, q3, q4⟩ | ⟨q1, q2, rfl, q3⟩ | ⟨q1, q2, rfl, q3, q4, q5, q6⟩
  · obtain ⟨a1, a2, a3⟩ := h.2 i hi
    rw [a1] at q1
    rw [a2] at q2
    exact Or.inl ⟨i, hi, pk_inj a3 hf (lN_inj (pk_48 a3 (by decide)) (pk_48 hf (by decide)) q1) (lN_inj (pk_48 a3 (by decide)) (pk_48 hf (by decide)) q2), rfl, old q3, q4⟩
  · exact Or.inr (Or.inl ⟨nin q1, by omega, rfl, old q3⟩)
  · refine Or.inr (Or.inr ⟨nin q1, q2, rfl, q4, fun q => ⟨q3, fun i hi => ?_⟩⟩)
    rw [adS_n] at hi
    by_cases c : i = nS S
    · subst c
      rw [adS_kn]
      exact ⟨q5, q6, hf⟩
    · rw [adS_k (by omega), (hk i (by omega)).1, (hk i (by omega)).2]
      exact h.2 i (by omega)
theorem or4 {j : Nat} (hj : j < 4) {o : Nat} (ho : o ≤ 16) (h7 : SR7 f) : lN (pkN f o (4 * j)) ||| lN (pkN f (o + 4 * j) 4 * 2 ^ (12 * j)) = lN (pkN f o (4 * (j + 1))) := by
  have e8 : (8 : Nat) ^ (4 * j) = 2 ^ (12 * j) := by rw [show 12 * j = 3 * (4 * j) by omega, Nat.pow_mul 2 3]
  have h1 := spk_lt (f := f) (o := o) (4 * j) (h7.d (by omega))
  have h2 := spk_lt (f := f) (o := o) (4 * (j + 1)) (h7.d (by omega))
  have h3 : (8 : Nat) ^ (4 * (j + 1)) ≤ 8 ^ 16 := Nat.pow_le_pow_right (by decide) (by omega)
  have e := pk_add (f := f) (o := o) (4 * j) 4
  rw [show 4 * j + 4 = 4 * (j + 1) by omega] at e
  rw [p816] at h3
  rw [e8] at e h1
  rw [g_or' (k := 12 * j) rfl h1 (by rw [← e]; omega), ← e]
theorem putSkC (w : WT m) (hb : SS b ρ) (h : HC b m (f, p)) (h7 : SR7 f) (hS : SC m S) : Ct ad μX9_putSkillsOf (d + 2) [.ref (ad 151), .ref (ad b)] m (LkQ m S f) := by
  have L : ∀ n j : Nat, j + n = 4 → AW ad E0 μX9_putSkillsOf (d + 2) (LkQ m S f) 8 [(0, .ref (ad 151)), (1, .ref (ad b)), (2, .long (lN (pkN f 0 (4 * j)))), (4, .long (lN (pkN f 16 (4 * j)))), (6, .int (nI j))] [] m := by
    intro n
    induction n with
    | zero =>
      intro j hj
      obtain rfl : j = 4 := hj
      refine g_X9_putSkillsOf_8 (d := d + 1) hb.1 ⟨fun _ => (putX (d := d + 1) w hS.1).to ?_, fun c => absurd (by decide) c⟩
      rintro r m1 hq
      have q := hS.look h7 hq
      have : ∃ x : Int32, r = some (.int x) := by
        rcases q.2.2 with ⟨i, -, -, e, -⟩ | ⟨-, -, e, -⟩ | ⟨-, -, e, -⟩ <;> exact ⟨_, e⟩
      obtain ⟨x, rfl⟩ := this
      exact ⟨x, rfl, q⟩
    | succ n ih =>
      intro j hj
      refine g_X9_putSkillsOf_8 (d := d + 1) hb.1 ⟨fun c => absurd ((le_l 4 4 rfl (by decide) (by omega)).mp c) (by omega), fun _ => (packC (d := d) hb h h7 (s := j) (by omega)).to ?_⟩
      rintro _ m1 ⟨eq, rfl⟩
      obtain rfl := eq.symm
      refine ⟨_, rfl, ?_⟩
      rw [add_l 4 4 rfl]
      refine (packC (d := d) hb h h7 (s := j + 4) (by omega)).to ?_
      rintro _ m1 ⟨eq, rfl⟩
      obtain rfl := eq.symm
      refine ⟨_, rfl, ?_⟩
      have o1 := or4 (j := j) (by omega) (o := 0) (by decide) h7
      have o2 := or4 (j := j) (by omega) (o := 16) (by decide) h7
      rw [Nat.zero_add] at o1
      rw [show j % 4 = j by omega, show (j + 4) % 4 = j by omega, show 4 * (j + 4) = 16 + 4 * j by omega, o1, o2, nI_1]
      exact ih (j + 1) (by omega)
  exact v_X9_putSkillsOf (d := d + 1) hb.1 (L 4 0 rfl)
theorem unpackAllC (w : WT m) (hS : SC m S) {i : Nat} (hi : i < nS S) (h : HC 157 m (f, p)) (hn : m.1 3 3 = nI e) (n8 : e ≤ 8) (hz : ∀ k, 4 * e ≤ k → k < 32 → f k = kS S i k) : Ct ad μX6_unpackAll (d + 2) [.ref (ad 156), .ref (ad 3), .int (nI i)] m (fun r m' => r = none ∧ WT m' ∧ Fx (RS [2, 11]) m m' ∧ HC 157 m' (kS S i, p)) := by
  obtain ⟨a1, a2, a3⟩ := hS.2 i hi
  have hN := hS.n
  have L : ∀ (n s : Nat) (m1 : Wm), s + n = e → WT m1 → Fx (RS [2, 11]) m m1 → HC 157 m1 ((fun k => if k < 4 * s then kS S i k else f k), p) → AW ad E0 μX6_unpackAll (d + 2) (fun r m' => r = none ∧ WT m' ∧ Fx (RS [2, 11]) m m' ∧ HC 157 m' (kS S i, p)) 2 [(0, .ref (ad 156)), (1, .ref (ad 3)), (2, .int (nI i)), (3, .int (nI s))] [] m1 := by
    intro n
    induction n with
    | zero =>
      intro s m1 hs w1 f1 h1
      obtain rfl : s = e := hs
      have e33 : m1.1 3 3 = nI s := (f1.at (nRS (ρ := 41) rfl rfl)).trans hn
      refine g_X6_unpackAll_2 (d := d + 1) ⟨fun _ => ⟨rfl, w1, f1, h1.cg (fun k hk => ?_) rfl⟩, fun c => absurd (by rw [e33]; exact (nI_leI (by omega) (by omega)).mpr (Nat.le_refl _)) c⟩
      show kS S i k = if k < 4 * s then kS S i k else f k
      by_cases c : k < 4 * s
      · rw [if_pos c]
      · rw [if_neg c]
        exact (hz k (by omega) hk).symm
    | succ n ih =>
      intro s m1 hs w1 f1 h1
      have e33 : m1.1 3 3 = nI e := (f1.at (nRS (ρ := 41) rfl rfl)).trans hn
      have c52 := (fx_cl (a := 152) (ρ := 10) f1 (fun _ => rfl) rfl).2
      have c53 := (fx_cl (a := 153) (ρ := 10) f1 (fun _ => rfl) rfl).2
      refine g_X6_unpackAll_2 (d := d + 1) ⟨fun c => absurd (by rw [e33] at c; exact (nI_leI (by omega) (by omega)).mp c) (by omega), fun _ => (unpackC (d := d) (f := kS S i) (p := p) w1 SS_157 G11 (by rw [c52]; exact a1) (by rw [c53]; exact a2) a3 (by omega) (s := s) (by omega) h1).to ?_⟩
      rintro _ m2 ⟨rfl, w2, f2, h2⟩
      rw [nI_1]
      refine ⟨rfl, ih (s + 1) m2 (by omega) w2 (f1.tr f2 (fun _ _ h => h)) (h2.cg (fun k hk => ?_) rfl)⟩
      show (if k < 4 * (s + 1) then kS S i k else f k) = (if 4 * s ≤ k ∧ k < 4 * s + 4 then kS S i k else (if k < 4 * s then kS S i k else f k))
      by_cases c : k < 4 * s
      · rw [if_pos (by omega), if_neg (by omega), if_pos c]
      · by_cases c2 : k < 4 * s + 4
        · rw [if_pos (by omega), if_pos (by omega)]
        · rw [if_neg (by omega), if_neg (by omega), if_neg c]
  refine v_X6_unpackAll (d := d + 1) (L e 0 m (by omega) w Fx.rf (h.cg (fun k _ => ?_) rfl))
  show (if k < 4 * 0 then kS S i k else f k) = f k
  rw [if_neg (by omega)]
theorem mix7 {s : Nat} (h : SR7 f) (h' : SR7 f') : SR7 (mixS s f f') := fun k hk => by
  unfold mixS
  split
  · exact h' k hk
  · exact h k hk
theorem half_mix {s u : Nat} (hs : s < 8) (hu : s / 4 = u) (h : SR7 f) (h' : SR7 f') : lN ((pkN f (16 * u) 16) &&& (2 ^ 64 - 1 - 4095 * 2 ^ (12 * (s % 4)))) ||| lN (pkN f' (4 * s) 4 * 2 ^ (12 * (s % 4))) = lN (pkN (mixS s f f') (16 * u) 16) := by
  have hM := pk_mask (s % 4) (by omega)
  have h48 := pk_48 h (o := 16 * u) (by omega)
  have hm := mix7 (s := s) h h'
  have e4 : pkN f' (4 * s) 4 = pkN (mixS s f f') (16 * u + 4 * (s % 4)) 4 := by
    rw [show 16 * u + 4 * (s % 4) = 4 * s by omega]
    refine pk_ch 4 (fun k hk => ?_)
    unfold mixS
    rw [if_pos (by omega)]
  have h4 : pkN f' (4 * s) 4 < 4096 := by
    have := spk_lt (f := f') (o := 4 * s) 4 (h'.d (by omega))
    have e : (8 : Nat) ^ 4 = 4096 := by decide
    omega
  have h36 : (2 : Nat) ^ (12 * (s % 4)) ≤ 2 ^ 36 := Nat.pow_le_pow_right (by decide) (by omega)
  have h5 : pkN f' (4 * s) 4 * 2 ^ (12 * (s % 4)) ≤ 4096 * 2 ^ 36 := Nat.mul_le_mul (by omega) h36
  have e36 : 4096 * 2 ^ 36 = 281474976710656 := by decide
  have ha : (pkN f (16 * u) 16 &&& (2 ^ 64 - 1 - 4095 * 2 ^ (12 * (s % 4)))) ≤ pkN f (16 * u) 16 := Nat.and_le_left
  rw [wb_or (by omega) (by omega), e4, pk_put h hm (by omega) (by omega) (fun k hk hj => ?_) hM.2]
  unfold mixS
  rw [if_neg (by omega)]
set_option maxHeartbeats 1000000 in
theorem halfC (hA : m.2.1 152 t = lN (pkN f 0 16)) (hB : m.2.1 153 t = lN (pkN f 16 16)) (h7 : SR7 f) (h7' : SR7 f') (ht : t < 3000) (h : HC 157 m (f', p)) (hs : ∀ k, k < 32 → k / 4 ≠ a → k / 4 ≠ e → f k = f' k) (ha : a < 8) (he : e < 8) {u : Nat} (hu : u < 2) :
    Ct ad μX6_halfAfter (d + 2) [.ref (ad 156), .int (nI t), .int (nI a), .int (nI e), .int (nI u)] m (fun r m' => m' = m ∧ r = some (.long (lN (pkN f' (16 * u) 16)))) := by
  have hm := mix7 (s := a) h7 h7'
  have fl : ∀ s, s < 8 → (if nI s < (4 : Int32) then (0 : Int32) else 1) = nI (s / 4) := fun s hs => by
    by_cases c : nI s < (4 : Int32)
    · rw [if_pos c]
      have := (l_lt 4 4 rfl (by decide) (by omega)).mp c
      rw [show s / 4 = 0 by omega]
      rfl
    · rw [if_neg c]
      have : ¬ s < 4 := fun z => c ((l_lt 4 4 rfl (by decide) (by omega)).mpr z)
      rw [show s / 4 = 1 by omega]
      rfl
  have K70 : AW ad E0 μX6_halfAfter (d + 2) (fun r m' => m' = m ∧ r = some (.long (lN (pkN f' (16 * u) 16)))) 70 [(0, .ref (ad 156)), (3, .int (nI e)), (4, .int (nI u)), (5, .long (lN (pkN (mixS a f f') (16 * u) 16)))] [.int (nI (e / 4))] m := by
    refine g_X6_halfAfter_70 (d := d + 1) ⟨fun c => ⟨rfl, ?_⟩, fun c => (withC (d := d + 1) he (pk_48 hm (o := 16 * u) (by omega))).to ?_⟩
    · have hne : e / 4 ≠ u := fun z => c (by rw [z])
      refine congrArg (fun z => some (Value.long (lN z))) (pk_ch 16 (fun k hk => ?_))
      unfold mixS
      by_cases q : (16 * u + k) / 4 = a
      · rw [if_pos q]
      · rw [if_neg q]
        exact hs _ (by omega) q (by omega)
    · have hue : e / 4 = u := (nI_eq (by omega) (by omega)).mp c
      rintro _ m1 ⟨eq, rfl⟩
      obtain rfl := eq.symm
      refine ⟨_, rfl, (packC (d := d) SS_157 h h7' he).to ?_⟩
      rintro _ m1 ⟨eq, rfl⟩
      obtain rfl := eq.symm
      refine ⟨_, rfl, rfl, ?_⟩
      rw [half_mix he hue hm h7']
      refine congrArg (fun z => some (Value.long (lN z))) (pk_ch 16 (fun k hk => ?_))
      show (if (16 * u + k) / 4 = e then f' (16 * u + k) else if (16 * u + k) / 4 = a then f' (16 * u + k) else f (16 * u + k)) = f' (16 * u + k)
      by_cases q : (16 * u + k) / 4 = e
      · rw [if_pos q]
      · rw [if_neg q]
        by_cases q2 : (16 * u + k) / 4 = a
        · rw [if_pos q2]
        · rw [if_neg q2]
          exact hs _ (by omega) q2 q
  have J70 : ∀ y : Int64, y = lN (pkN (mixS a f f') (16 * u) 16) → ((nI e < (4 : Int32) → AW ad E0 μX6_halfAfter (d + 2) (fun r m' => m' = m ∧ r = some (.long (lN (pkN f' (16 * u) 16)))) 70 [(0, .ref (ad 156)), (3, .int (nI e)), (4, .int (nI u)), (5, .long y)] [.int (0 : Int32)] m) ∧ (¬ nI e < (4 : Int32) → AW ad E0 μX6_halfAfter (d + 2) (fun r m' => m' = m ∧ r = some (.long (lN (pkN f' (16 * u) 16)))) 70 [(0, .ref (ad 156)), (3, .int (nI e)), (4, .int (nI u)), (5, .long y)] [.int (1 : Int32)] m)) := fun y hy => by
    subst hy
    have q := fl e he
    refine ⟨fun c => ?_, fun c => ?_⟩
    · rw [if_pos c] at q
      rw [q]
      exact K70
    · rw [if_neg c] at q
      rw [q]
      exact K70
  have K38 : AW ad E0 μX6_halfAfter (d + 2) (fun r m' => m' = m ∧ r = some (.long (lN (pkN f' (16 * u) 16)))) 38 [(0, .ref (ad 156)), (2, .int (nI a)), (3, .int (nI e)), (4, .int (nI u)), (5, .long (lN (pkN f (16 * u) 16)))] [.int (nI (a / 4))] m := by
    refine g_X6_halfAfter_38 (d := d + 1) ⟨fun c => J70 _ ?_, fun c => (withC (d := d + 1) ha (pk_48 h7 (o := 16 * u) (by omega))).to ?_⟩
    · have hne : a / 4 ≠ u := fun z => c (by rw [z])
      refine congrArg lN (pk_ch 16 (fun k hk => ?_))
      unfold mixS
      rw [if_neg (by omega)]
    · have hue : a / 4 = u := (nI_eq (by omega) (by omega)).mp c
      rintro _ m1 ⟨eq, rfl⟩
      obtain rfl := eq.symm
      refine ⟨_, rfl, (packC (d := d) SS_157 h h7' ha).to ?_⟩
      rintro _ m1 ⟨eq, rfl⟩
      obtain rfl := eq.symm
      exact ⟨_, rfl, J70 _ (half_mix ha hue h7 h7')⟩
  have K26 : AW ad E0 μX6_halfAfter (d + 2) (fun r m' => m' = m ∧ r = some (.long (lN (pkN f' (16 * u) 16)))) 26 [(0, .ref (ad 156)), (2, .int (nI a)), (3, .int (nI e)), (4, .int (nI u))] [.long (lN (pkN f (16 * u) 16))] m := by
    have q := fl a ha
    refine g_X6_halfAfter_26 (d := d + 1) ⟨fun c => ?_, fun c => ?_⟩
    · rw [if_pos c] at q
      rw [q]
      exact K38
    · rw [if_neg c] at q
      rw [q]
      exact K38
  have V : vp_in (nI t) 3000 := nat_in ht (by decide)
  refine v_X6_halfAfter (d := d + 1) ⟨fun c => ⟨V, ?_⟩, fun c => ⟨V, ?_⟩⟩
  · have hu0 : u = 0 := (nI_eq (a := u) (b := 0) (by omega) (by decide)).mp c
    subst hu0
    rw [nI_clamp (by omega), hA]
    exact K26
  · have hu1 : u = 1 := by
      have : u ≠ 0 := fun z => c (by rw [z]; rfl)
      omega
    subst hu1
    rw [nI_clamp (by omega), hB]
    exact K26
/-! a game told by its mark: none taught, nothing changed -/
set_option maxHeartbeats 1000000 in
theorem teachN (hb : SS b ρ) (hρ : GR ρ) (w : WT m) (f0 : Fx (RS [2, ρ]) m0 m) (h : HC b m g) (hE : EC m v) (hf : a < 8) (ht : t < 8) (hft : a ≠ t) :
    Ct ad μX1_teach (d + 2) [.ref (ad 3), .ref (ad b), .int (nI a), .int (nI t), .int 0] m (fun r m' => r = none ∧ WT m' ∧ Fx (RS [2, ρ]) m0 m' ∧ HC b m' (tchG false v a t g) ∧ (m'.1 3 6 = -1 → m.1 3 6 = -1 ∧ tchG false v a t g = g)) := by
  obtain ⟨e1, e2, e3, e4, e5, e6, e7⟩ := hE
  refine v_X1_teach hb.1 ?_
  rw [e2]
  refine (furthC (d := d) hb h hf ht e4).to ?_
  rintro _ m1 ⟨eq, rfl⟩
  obtain rfl := eq.symm
  refine ⟨_, rfl, fun c => ?_, fun c => ?_⟩
  · rcases artG_of (s := g.1) (f := a) (t := t) (n := aE v) with q | ⟨j, hj, q⟩
    · exact absurd q c
    have G : tchG false v a t g = (upd (upd g.1 (4 * t + j) (g.1 (4 * t + j) + gnG (iE v a) (lE v 1) (g.1 (4 * t + j)) (g.1 (4 * a + j)))) (4 * a + j) (clS (g.1 (4 * a + j) + lE v 2 - 1)), g.2.1, g.2.2.1, g.2.2.2) := by
      unfold tchG gainG
      rw [if_neg c, q, nI_clamp (by omega), if_neg (by decide)]
    rw [G, q]
    refine (skillC (d := d + 1) hb h ht (a := j) (by omega)).to ?_
    rintro _ m2 ⟨eq, rfl⟩
    obtain rfl := eq.symm
    refine ⟨_, rfl, (skillC (d := d + 1) hb h hf (a := j) (by omega)).to ?_⟩
    rintro _ m3 ⟨eq, rfl⟩
    obtain rfl := eq.symm
    refine ⟨_, rfl, (isIllC (d := d + 1) (v := v) e6.1 hf).to ?_⟩
    rintro _ m4 ⟨eq, rfl⟩
    obtain rfl := eq.symm
    generalize hn : gnG (iE v a) (lE v 1) (g.1 (4 * t + j)) (g.1 (4 * a + j)) = n
    have go : AW ad E0 μX1_teach (d + 1 + 1) (fun r m' => r = none ∧ WT m' ∧ Fx (RS [2, ρ]) m0 m' ∧ HC b m' (upd (upd g.1 (4 * t + j) (g.1 (4 * t + j) + n)) (4 * a + j) (clS (g.1 (4 * a + j) + lE v 2 - 1)), g.2.1, g.2.2.1, g.2.2.2) ∧ (m'.1 3 6 = -1 → m.1 3 6 = -1 ∧ (upd (upd g.1 (4 * t + j) (g.1 (4 * t + j) + n)) (4 * a + j) (clS (g.1 (4 * a + j) + lE v 2 - 1)), g.2.1, g.2.2.1, g.2.2.2) = g)) 63 [(0, .ref (ad 3)), (1, .ref (ad b)), (2, .int (nI a)), (3, .int (nI t)), (4, .int 0), (5, .int (nI j)), (6, .int (g.1 (4 * t + j))), (7, .int (g.1 (4 * a + j)))] [.int n] m := by
      refine g_X1_teach_63 hb.1 ((putC (d := d + 1) hb ht (a := j) (by omega)).to ?_)
      rintro _ m5 ⟨rfl, rfl⟩
      have l2 : (uI m (b + 1) (4 * t + j) (g.1 (4 * t + j) + n)).1 4 2 = lE v 2 := (Fx.at (SS.fu hb (Fx.rf (m := m)) (j := 1) (by decide)) (a := 4) (k := 2) (nRS (ρ := 43) (all_ne (L := [1, 41, 42, 43]) hρ.e1 rfl) rfl)).trans (e5 2 (by decide))
      have e22 : (2 : Int32).toNatClampNeg = 2 := rfl
      rw [e22, l2]
      refine ⟨rfl, (clampS (d := d + 1)).to ?_⟩
      rintro _ m6 ⟨eq, rfl⟩
      obtain rfl := eq.symm
      refine ⟨_, rfl, (putC (d := d + 1) hb hf (a := j) (by omega)).to ?_⟩
      rintro _ m7 ⟨rfl, rfl⟩
      have w7 : WT (uI (uI m (b + 1) (4 * t + j) (g.1 (4 * t + j) + n)) (b + 1) (4 * a + j) (clS (g.1 (4 * a + j) + lE v 2 - 1))) := hb.wu (hb.wu w (by decide)) (by decide)
      have f7 : Fx (RS [2, ρ]) m0 (uI (uI m (b + 1) (4 * t + j) (g.1 (4 * t + j) + n)) (b + 1) (4 * a + j) (clS (g.1 (4 * a + j) + lE v 2 - 1))) := hb.fu (hb.fu f0 (by decide)) (by decide)
      have H7 : HC b (uI (uI m (b + 1) (4 * t + j) (g.1 (4 * t + j) + n)) (b + 1) (4 * a + j) (clS (g.1 (4 * a + j) + lE v 2 - 1))) (upd (upd g.1 (4 * t + j) (g.1 (4 * t + j) + n)) (4 * a + j) (clS (g.1 (4 * a + j) + lE v 2 - 1)), g.2) := (h.sk).sk
      have hb3 : ¬ (b ≤ 3 ∧ 3 ≤ b + 4) := fun q => by
        have r3 := (hb.2 (3 - b) 3 (by omega)).1
        rw [show b + (3 - b) = 3 by omega] at r3
        have r4 : rg 3 3 = 41 := rfl
        rw [r4] at r3
        rcases hρ with z | z | z | z | z | z | z <;> omega
      refine ⟨rfl, fun q => ?_, fun q => absurd rfl q⟩
      refine g_X1_teach_117 ⟨fun z => ⟨rfl, w7, f7, H7, fun y => absurd y z⟩, fun _ => ⟨rfl, (w7.n rfl).n rfl, (f7.i (show RS [2, ρ] 3 6 from rfl)).i (show RS [2, ρ] 3 7 from rfl), (H7.o hb3).o hb3, fun y => ?_⟩⟩
      have y' : nI j = -1 := (((u_ne (by omega)).trans u_eq).symm.trans y)
      have := congrArg Int32.toInt y'
      rw [nI_toInt (by omega)] at this
      have z1 : (-1 : Int32).toInt = -1 := rfl
      omega
    have e11 : (1 : Int32).toNatClampNeg = 1 := rfl
    rw [e11, e5 1 (by decide)]
    refine ⟨_, rfl, fun q => ?_, fun q => ?_⟩
    · have hi : ¬ iE v a = true := fun z => by rw [if_pos z] at q; exact absurd q (by decide)
      have en : (if g.1 (4 * a + j) - g.1 (4 * t + j) < lE v 1 then g.1 (4 * a + j) - g.1 (4 * t + j) else lE v 1) = n := by rw [← hn]; unfold gnG; rw [if_neg hi]
      rw [en]
      exact go
    · have hi : iE v a = true := by
        cases e : iE v a with
        | true => rfl
        | false => exact absurd (by rw [e]; rfl) q
      have en : (0 : Int32) = n := by rw [← hn]; unfold gnG; rw [if_pos hi]
      subst en
      exact go
  · have G : tchG false v a t g = g := if_pos c
    rw [G]
    exact ⟨rfl, w, f0, h, fun y => ⟨y, rfl⟩⟩
theorem settleN (hb : SS b ρ) (hρ : GR ρ) (w : WT m) (h : HC b m g) (hE : EC m v) (ha : a < 8) (he : e < 8) (hae : a ≠ e) {x4 : Int32} (h2 : ¬ x4 = 2) :
    Ct ad μX1_settle (d + 3) [.ref (ad 3), .ref (ad b), .int (nI a), .int (nI e), .int x4, .int 0] m (fun r m' => r = none ∧ WT m' ∧ Fx (RS [2, ρ]) m m' ∧ HC b m' (stlG false v a e x4 g) ∧ (m'.1 3 6 = -1 → stlG false v a e x4 g = g)) := by
  have e00 : (0 : Int32).toNatClampNeg = 0 := rfl
  have hb3 : ¬ (b ≤ 3 ∧ 3 ≤ b + 4) := fun q => by
    have r3 := (hb.2 (3 - b) 3 (by omega)).1
    rw [show b + (3 - b) = 3 by omega] at r3
    have r4 : rg 3 3 = 41 := rfl
    rw [r4] at r3
    rcases hρ with z | z | z | z | z | z | z <;> omega
  have lw0 : ∀ m1, Fx (RS [2, ρ]) m m1 → m1.1 4 0 = lE v 0 := fun m1 f1 => (f1.at (nRS (ρ := 43) (all_ne (L := [1, 41, 42, 43]) hρ.e1 rfl) rfl)).trans (hE.2.2.2.2.1 0 (by decide))
  have WL : ∀ (wi lo : Nat) (m1 : Wm), wi < 8 → lo < 8 → wi ≠ lo → WT m1 → Fx (RS [2, ρ]) m m1 → HC b m1 g → AW ad E0 μX1_settle (d + 2 + 1) (fun r m' => r = none ∧ WT m' ∧ Fx (RS [2, ρ]) m m' ∧ HC b m' (stl2 false v wi lo (stl1 false v wi lo g)) ∧ (m'.1 3 6 = -1 → stl2 false v wi lo (stl1 false v wi lo g) = g)) 52 [(0, .ref (ad 3)), (1, .ref (ad b)), (5, .int 0), (6, .int (nI wi))] [.int (nI lo)] m1 := by
    intro wi lo m1 hwi hlo hwl w1 f1 H1
    have B : ∀ (g2 : GS) (m2 : Wm), WT m2 → Fx (RS [2, ρ]) m m2 → HC b m2 g2 → (m2.1 3 6 = -1 → g2 = g) → AW ad E0 μX1_settle (d + 2 + 1) (fun r m' => r = none ∧ WT m' ∧ Fx (RS [2, ρ]) m m' ∧ HC b m' (stl2 false v wi lo g2) ∧ (m'.1 3 6 = -1 → stl2 false v wi lo g2 = g)) 84 [(0, .ref (ad 3)), (1, .ref (ad b)), (5, .int 0), (6, .int (nI wi)), (7, .int (nI lo))] [] m2 := by
      intro g2 m2 w2 f2 H2 k2
      have T : lE v 0 = 1 ∨ lE v 0 = 2 → AW ad E0 μX1_settle (d + 2 + 1) (fun r m' => r = none ∧ WT m' ∧ Fx (RS [2, ρ]) m m' ∧ HC b m' (stl2 false v wi lo g2) ∧ (m'.1 3 6 = -1 → stl2 false v wi lo g2 = g)) 104 [(0, .ref (ad 3)), (1, .ref (ad b)), (5, .int 0), (6, .int (nI wi)), (7, .int (nI lo))] [] m2 := fun q => by
        have es : stl2 false v wi lo g2 = tchG false v lo wi g2 := if_pos q
        rw [es]
        refine g_X1_settle_104 hb.1 ((teachN (d := d) hb hρ w2 f2 H2 (hE.fx f2 hρ.e1) hlo hwi (Ne.symm hwl)).to ?_)
        rintro _ m3 ⟨rfl, w3, f3, H3, k3⟩
        exact ⟨rfl, rfl, w3, f3, H3, fun y => ((k3 y).2).trans (k2 (k3 y).1)⟩
      refine g_X1_settle_84 hb.1 ?_
      rw [e00, lw0 m2 f2]
      refine ⟨fun q => T (Or.inl q), fun n1 => ⟨fun n2 => ?_, fun q => T (Or.inr q)⟩⟩
      have es : stl2 false v wi lo g2 = g2 := if_neg (fun z => z.elim n1 n2)
      rw [es]
      exact ⟨rfl, w2, f2, H2, k2⟩
    have T : lE v 0 = 0 ∨ lE v 0 = 2 → Ct ad μX1_teach (d + 2) [.ref (ad 3), .ref (ad b), .int (nI wi), .int (nI lo), .int 0] m1 (fun r m2 => r = none ∧ AW ad E0 μX1_settle (d + 2 + 1) (fun r m' => r = none ∧ WT m' ∧ Fx (RS [2, ρ]) m m' ∧ HC b m' (stl2 false v wi lo (stl1 false v wi lo g)) ∧ (m'.1 3 6 = -1 → stl2 false v wi lo (stl1 false v wi lo g) = g)) 84 [(0, .ref (ad 3)), (1, .ref (ad b)), (5, .int 0), (6, .int (nI wi)), (7, .int (nI lo))] [] m2) := fun q => by
      refine (teachN (d := d) hb hρ w1 f1 H1 (hE.fx f1 hρ.e1) hwi hlo hwl).to ?_
      rintro _ m3 ⟨rfl, w3, f3, H3, k3⟩
      refine ⟨rfl, ?_⟩
      have es : stl1 false v wi lo g = tchG false v wi lo g := if_pos q
      rw [es]
      exact B _ _ w3 f3 H3 (fun y => (k3 y).2)
    refine g_X1_settle_52 hb.1 ?_
    rw [e00, lw0 m1 f1]
    refine ⟨fun q => T (Or.inl q), fun n0 => ⟨fun n2 => ?_, fun q => T (Or.inr q)⟩⟩
    have es : stl1 false v wi lo g = g := if_neg (fun z => z.elim n0 n2)
    rw [es]
    exact B _ _ w1 f1 H1 (fun _ => rfl)
  have w2 : WT (uI (uI m 3 6 (-1 : Int32)) 3 7 (0 : Int32)) := (w.n rfl).n rfl
  have f2 : Fx (RS [2, ρ]) m (uI (uI m 3 6 (-1 : Int32)) 3 7 (0 : Int32)) := ((Fx.rf (S := RS [2, ρ])).i (show RS [2, ρ] 3 6 from rfl)).i (show RS [2, ρ] 3 7 from rfl)
  have H2 : HC b (uI (uI m 3 6 (-1 : Int32)) 3 7 (0 : Int32)) g := (h.o hb3).o hb3
  have es : stlG false v a e x4 g = stl2 false v (if x4 = 0 then a else e) (if x4 = 0 then e else a) (stl1 false v (if x4 = 0 then a else e) (if x4 = 0 then e else a) g) := by
    unfold stlG
    rw [if_neg h2, if_neg (show ¬ (false = true) by decide)]
  rw [es]
  refine v_X1_settle hb.1 ⟨fun _ => ?_, fun q => absurd rfl q⟩
  refine g_X1_settle_23 hb.1 ⟨fun _ => ⟨fun n0 => ⟨fun _ => ?_, fun q => absurd q n0⟩, fun q0 => ⟨fun q => absurd q0 q, fun _ => ?_⟩⟩, fun q2 => absurd q2 h2⟩
  · rw [if_neg n0, if_neg n0]
    exact WL e a _ he ha (Ne.symm hae) w2 f2 H2
  · rw [if_pos q0, if_pos q0]
    exact WL a e _ ha he hae w2 f2 H2
end SCS
end
section
/-! THE SEARCH OF THE CLASS: a game, a state, all of them -/
def CI (v : EV) (p : PSt) (t : Nat) (S : SSt) (m0 m : Wm) : Prop := WT m ∧ Fx (RS [2, 10, 11, 14, 58]) m0 m ∧ SC m S ∧ SDp m S ∧ HC 157 m (kS S t, p) ∧ EC m v ∧ (∀ s, s < nE v → m.1 162 s = pwG v (kS S t, p) s) ∧ ZI v S ∧ t < nS S
/-- between two states -/
def EJ (v : EV) (p : PSt) (S : SSt) (m0 m : Wm) : Prop := WT m ∧ Fx (RS [2, 10, 11, 14, 58]) m0 m ∧ SC m S ∧ SDp m S ∧ (∃ f, HC 157 m (f, p) ∧ ∀ k, 4 * nE v ≤ k → k < 32 → f k = 0) ∧ EC m v ∧ ZI v S
/-- there was no room -/
def NJ (m0 m : Wm) : Prop := WT m ∧ Fx (RS [2, 10, 11, 14, 58]) m0 m ∧ SWx m
section SRC
variable {ad : Nat → Nat} {d b ρ t a w s : Nat} {m m' m0 : Wm} {g : GS} {v : EV} {p : PSt} {S : SSt}
theorem powCb (hb : SS b ρ) (hρ : GR ρ) (w : WT m) (h : HC b m g) (hE : EC m v) (hs : s < 8) : Ct ad μX1_power (d + 4) [.ref (ad 3), .ref (ad b), .int (nI s)] m (fun r m' => WT m' ∧ Fx (RS [14]) m m' ∧ r = some (.int (pwG v g s))) := by
  obtain ⟨P, hP, hRu, hV⟩ := valueC (ad := ad) (d := d) hb hρ w h hE hs
  refine v_X1_power (d := d + 3) hb.1 ⟨P, hP, hRu, ?_⟩
  rw [hE.2.1]
  refine hV.to ?_
  rintro _ m1 ⟨w1, f1, rfl⟩
  exact ⟨_, rfl, w1, f1, rfl⟩
theorem SC.sw (h : SC m S) : SWx m := ⟨_, h.1.1⟩
theorem CI.e8 (h : CI v p t S m0 m) : nE v ≤ 8 := h.2.2.2.2.2.1.2.2.1
set_option maxHeartbeats 2000000 in
theorem stepC (h : CI v p t S m0 m) (hw : w ≤ 2) (hab : a < b) (hb : b < nE v) (hH : HW v p t w a b S) : Ct ad μX6_step (d + 4) [.ref (ad 156), .ref (ad 3), .int (nI t), .int (nI w), .int (nI a), .int (nI b)] m (fun r m' => (∃ S', xS v p t w a b S = some S' ∧ r = some (.int 1) ∧ CI v p t S' m0 m') ∨ (xS v p t w a b S = none ∧ r = some (.int 0) ∧ NJ m0 m')) := by
  have H0 := h
  obtain ⟨w0, f0, hS, hD, hc, hE, hP, hZ, ht⟩ := h
  have n8 := hE.2.2.1
  have hN := hS.n
  have G2 : (qtG v a b (nI w) (kS S t, p)).2 = p := stl_f2
  have sameQ : xS v p t w a b S = some S → ∀ m1, CI v p t S m0 m1 → (∃ S', xS v p t w a b S = some S' ∧ some (Value.int (1 : Int32)) = some (.int 1) ∧ CI v p t S' m0 m1) ∨ (xS v p t w a b S = none ∧ some (Value.int (1 : Int32)) = some (.int 0) ∧ NJ m0 m1) := fun e m1 h1 => Or.inl ⟨S, e, rfl, h1⟩
  have hon : rsG v (pwG v (kS S t, p) a - pwG v (kS S t, p) b) = wnG v (kS S t, p) a b (nI 0) := by
    unfold wnG
    rw [if_neg (show ¬ (nI 0 = (1 : Int32)) by decide), if_neg (show ¬ (nI 0 = (2 : Int32)) by decide), if_neg (show ¬ (nI 0 = (3 : Int32)) by decide)]
  have E61 : ¬ wnG v (kS S t, p) a b (nI w) = 2 → AW ad E0 μX6_step (d + 4) (fun r m' => (∃ S', xS v p t w a b S = some S' ∧ r = some (.int 1) ∧ CI v p t S' m0 m') ∨ (xS v p t w a b S = none ∧ r = some (.int 0) ∧ NJ m0 m')) 61 [(0, .ref (ad 156)), (1, .ref (ad 3)), (2, .int (nI t)), (3, .int (nI w)), (4, .int (nI a)), (5, .int (nI b)), (7, .int (wnG v (kS S t, p) a b (nI w)))] [] m := by
    intro h2
    refine g_X6_step_61 (d := d + 3) ((settleN (d := d) SS_157 G11 w0 hc hE (a := a) (e := b) (by omega) (by omega) (by omega) h2).to ?_)
    rintro _ m1 ⟨rfl, w1, f1, h1, k1⟩
    have h1' : HC 157 m1 ((qtG v a b (nI w) (kS S t, p)).1, p) := h1.cg (fun _ _ => rfl) G2.symm
    have k1' : m1.1 3 6 = -1 → qtG v a b (nI w) (kS S t, p) = (kS S t, p) := k1
    have zb : ZB v (qtG v a b (nI w) (kS S t, p)) := (hZ t ht p).qt (by omega) hb hE.2.2.2.1
    have at1 : ∀ k, k < 32 → k / 4 ≠ a → k / 4 ≠ b → kS S t k = (qtG v a b (nI w) (kS S t, p)).1 k := fun k _ q1 q2 => (stl_at (cn := false) (x := wnG v (kS S t, p) a b (nI w)) (g := (kS S t, p)) hE.2.2.2.1 q1 q2).symm
    have hx : xS v p t w a b S = insS (qtG v a b (nI w) (kS S t, p)).1 (dS S t + 1) S := rfl
    have r7 := zb.1.2
    have zbp : ∀ p' : PSt, ZB v ((qtG v a b (nI w) (kS S t, p)).1, p') := fun p' => zb.of rfl
    generalize (qtG v a b (nI w) (kS S t, p)).1 = f' at h1' at1 hx r7 zbp
    have F1 : Fx (RS [2, 10, 11, 14, 58]) m0 m1 := f0.tr f1 (RS_sub rfl)
    have S1 : SC m1 S := hS.fx f1 rfl
    have D1 : SDp m1 S := hD.fx f1 rfl
    have E1 : EC m1 v := hE.fx f1 rfl
    have P1 : ∀ s, s < nE v → m1.1 162 s = pwG v (kS S t, p) s := fun s hs => (f1.at (nRS (ρ := 58) rfl rfl)).trans (hP s hs)
    refine ⟨rfl, fun c => ?_, fun c => ?_⟩
    · obtain ⟨a1, a2, a3⟩ := S1.2 t ht
      have q0 := halfC (ad := ad) (d := d + 1) (p := p) (a := a) (e := b) a1 a2 a3 r7 (by omega) h1' at1 (by omega) (by omega) (u := 0) (by decide)
      have q1 := halfC (ad := ad) (d := d + 1) (p := p) (a := a) (e := b) a1 a2 a3 r7 (by omega) h1' at1 (by omega) (by omega) (u := 1) (by decide)
      refine q0.to ?_
      rintro _ m2 ⟨eq, rfl⟩
      obtain rfl := eq.symm
      refine ⟨_, rfl, q1.to ?_⟩
      rintro _ m2 ⟨eq, rfl⟩
      obtain rfl := eq.symm
      refine ⟨_, rfl, (putX (d := d + 3) w1 S1.1).to ?_⟩
      rintro r m6 q
      obtain ⟨w6, f6, q⟩ := S1.look r7 q
      have h6 : HC 157 m6 (f', p) := h1'.fx SS_157 f6 rfl
      -- both sides' skills brought back
      have UN : ∀ (S2 : SSt) (Q : Wm → Prop), SC m6 S2 → LeS S S2 → (∀ m9, WT m9 → Fx (RS [2, 11]) m6 m9 → HC 157 m9 (kS S t, p) → Q m9) → Ct ad μX9_unpack (d + 3) [.ref (ad 151), .int (nI t), .int (nI a), .ref (ad 157)] m6 (fun r m8 => r = none ∧ Ct ad μX9_unpack (d + 3) [.ref (ad 151), .int (nI t), .int (nI b), .ref (ad 157)] m8 (fun r m9 => r = none ∧ Q m9)) := by
        intro S2 Q s6 l6 k6
        have ht2 : t < nS S2 := Nat.lt_of_lt_of_le ht l6.1
        obtain ⟨b1, b2, b3⟩ := s6.2 t ht2
        have n6 := s6.n
        rw [(l6.2 t ht).1] at b1 b2 b3
        refine (unpackC (d := d + 2) (f := kS S t) (p := p) w6 SS_157 G11 b1 b2 b3 (by omega) (s := a) (by omega) h6).to ?_
        rintro _ m8 ⟨rfl, w8, f8, h8⟩
        have c52 := (fx_cl (a := 152) (ρ := 10) f8 (fun _ => rfl) rfl).2
        have c53 := (fx_cl (a := 153) (ρ := 10) f8 (fun _ => rfl) rfl).2
        refine ⟨rfl, (unpackC (d := d + 2) (f := kS S t) (p := p) w8 SS_157 G11 (by rw [c52]; exact b1) (by rw [c53]; exact b2) b3 (by omega) (s := b) (by omega) h8).to ?_⟩
        rintro _ m9 ⟨rfl, w9, f9, h9⟩
        refine ⟨rfl, k6 m9 w9 (f8.tr f9 (fun _ _ h => h)) (h9.cg (fun k hk => ?_) rfl)⟩
        show kS S t k = if 4 * b ≤ k ∧ k < 4 * b + 4 then kS S t k else if 4 * a ≤ k ∧ k < 4 * a + 4 then kS S t k else f' k
        by_cases z1 : 4 * b ≤ k ∧ k < 4 * b + 4
        · rw [if_pos z1]
        · rw [if_neg z1]
          by_cases z2 : 4 * a ≤ k ∧ k < 4 * a + 4
          · rw [if_pos z2]
          · rw [if_neg z2]
            exact at1 k hk (by omega) (by omega)
      have C9 : ∀ (S2 : SSt) m9, SC m6 S2 → WT m9 → Fx (RS [2, 11]) m6 m9 → HC 157 m9 (kS S t, p) → WT m9 ∧ Fx (RS [2, 10, 11, 14, 58]) m0 m9 ∧ SC m9 S2 ∧ SDp m9 S ∧ HC 157 m9 (kS S t, p) ∧ EC m9 v ∧ (∀ s, s < nE v → m9.1 162 s = pwG v (kS S t, p) s) ∧ m9.1 151 5 = m6.1 151 5 := fun S2 m9 s6 w9 f9 h9 =>
        ⟨w9, (F1.tr f6 (RS_sub rfl)).tr f9 (RS_sub rfl), s6.fx f9 rfl, (D1.fx f6 rfl).fx f9 rfl, h9, (E1.fx f6 rfl).fx f9 rfl, fun s hs => (f9.at (nRS (ρ := 58) rfl rfl)).trans ((f6.at (nRS (ρ := 58) rfl rfl)).trans (P1 s hs)), f9.at (nRS (ρ := 10) rfl rfl)⟩
      rcases q with ⟨i, hi, ei, rfl, s6, z6⟩ | ⟨ni, n3, rfl, s6⟩ | ⟨ni, n3, rfl, z6, s6⟩
      · refine ⟨_, rfl, UN S _ s6 LeS.rf (fun m9 w9 f9 h9 => ?_)⟩
        obtain ⟨g1, g2, g3, g4, g5, g6, g7, g8⟩ := C9 S m9 s6 w9 f9 h9
        have e : xS v p t w a b S = some S := by rw [hx]; exact insS_in ⟨i, hi, ei⟩
        have ni : nI i ≠ -1 := fun q => by
          have := congrArg Int32.toInt q
          rw [nI_toInt (by omega)] at this
          have z1 : (-1 : Int32).toInt = -1 := rfl
          omega
        exact ⟨fun _ => ⟨fun _ => sameQ e m9 ⟨g1, g2, g3, g4, g5, g6, g7, hZ, ht⟩, fun z => absurd (g8.trans z6) z⟩, fun z => absurd z ni⟩
      · refine ⟨_, rfl, UN S _ s6 LeS.rf (fun m9 w9 f9 h9 => ?_)⟩
        obtain ⟨g1, g2, g3, g4, g5, g6, g7, g8⟩ := C9 S m9 s6 w9 f9 h9
        exact ⟨fun z => absurd rfl z, fun _ => Or.inr ⟨by rw [hx]; exact insS_no ni n3, rfl, g1, g2, g3.sw⟩⟩
      · have s6' := s6 (dS S t + 1)
        refine ⟨_, rfl, UN (adS f' (dS S t + 1) S) _ s6' LeS.ad (fun m9 w9 f9 h9 => ?_)⟩
        obtain ⟨g1, g2, g3, g4, g5, g6, g7, g8⟩ := C9 _ m9 s6' w9 f9 h9
        have e : xS v p t w a b S = some (adS f' (dS S t + 1) S) := by rw [hx]; exact insS_new ni n3
        have nn : nI (nS S) ≠ -1 := fun q => by
          have := congrArg Int32.toInt q
          rw [nI_toInt (by omega)] at this
          have z1 : (-1 : Int32).toInt = -1 := rfl
          omega
        refine ⟨fun _ => ⟨fun z => absurd (g8.symm.trans z) (by rw [z6]; decide), fun _ => ?_⟩, fun z => absurd z nn⟩
        obtain ⟨e65, dl⟩ := g4 t ht
        have V : vp_in (nI (nS S)) 3000 := nat_in n3 (by decide)
        have Vt : vp_in (nI t) 3000 := nat_in (by omega) (by decide)
        refine ⟨V, V, Vt, V, Or.inl ⟨_, e, rfl, ?_⟩⟩
        have fin : ∀ (k : Nat) (y z : Int32), k = nS S → y = nI (dS S t + 1) → CI v p t (adS f' (dS S t + 1) S) m0 (uI (uI (uI m9 163 k (nI t)) 164 k z) 165 k y) := by
          intro k y z hk hy
          subst hk hy
          have ty : (nI (dS S t + 1)).toInt = ((dS S t + 1 : Nat) : Int) := nI_toInt (by omega)
          have tt : (nI t).toInt = (t : Int) := nI_toInt (by omega)
          have F : Fx (RS [58]) m9 (uI (uI (uI m9 163 (nS S) (nI t)) 164 (nS S) z) 165 (nS S) (nI (dS S t + 1))) := Fx.i (Fx.i (Fx.i Fx.rf rfl) rfl) rfl
          refine ⟨((g1.t (a := 163) rfl (by omega) (by omega)).n rfl).t (a := 165) (lo := 0) (hi := (nS S : Int)) rfl (by omega) (by omega), g2.tr F (RS_sub rfl), g3.fx F rfl, fun i hi => ?_, ?_, g6.fx F rfl, fun s hs => ?_, hZ.ins (fun p' => zbp p') (by rw [← hx]; exact e), by rw [adS_n]; omega⟩
          · rw [adS_n] at hi
            by_cases c : i = nS S
            · subst c
              rw [adS_dn]
              exact ⟨u_eq, by omega⟩
            · rw [adS_d (by omega)]
              exact ⟨(u_ne (fun q => c q.2)).trans ((u_ne (by omega)).trans ((u_ne (by omega)).trans (g4 i (by omega)).1)), (g4 i (by omega)).2⟩
          · rw [adS_k ht]
            exact g5.fx SS_157 F rfl
          · rw [adS_k ht]
            exact (u_ne (by omega)).trans ((u_ne (by omega)).trans ((u_ne (by omega)).trans (g7 s hs)))
        refine fin _ _ _ (nI_clamp (by omega)) ?_
        rw [nI_clamp (n := t) (by omega), nI_clamp (n := nS S) (by omega)]
        show m9.1 165 t + 1 = _
        rw [e65, nI_1]
    · refine sameQ (xS_same ht ?_) m1 ⟨w1, F1, S1, D1, ?_, E1, P1, hZ, ht⟩
      · rw [k1' c]
        exact fun _ _ => rfl
      · have := h1
        rw [show stlG false v a b (wnG v (kS S t, p) a b (nI w)) (kS S t, p) = (kS S t, p) from k1 c] at this
        exact this
  have E40 : AW ad E0 μX6_step (d + 4) (fun r m' => (∃ S', xS v p t w a b S = some S' ∧ r = some (.int 1) ∧ CI v p t S' m0 m') ∨ (xS v p t w a b S = none ∧ r = some (.int 0) ∧ NJ m0 m')) 40 [(0, .ref (ad 156)), (1, .ref (ad 3)), (2, .int (nI t)), (3, .int (nI w)), (4, .int (nI a)), (5, .int (nI b)), (6, .int (wnG v (kS S t, p) a b (nI 0)))] [.int (wnG v (kS S t, p) a b (nI w))] m := by
    refine g_X6_step_40 (d := d + 3) ⟨fun c => sameQ (xS_same ht ?_) m H0, fun c => ⟨fun _ => E61 c, fun c2 => ⟨fun _ => E61 c, fun c3 => sameQ (xS_honest hH (fun z => c2 (by rw [z]; rfl)) hab hb c3) m H0⟩⟩⟩
    unfold qtG stlG
    rw [if_pos c, if_neg (show ¬ (false = true) by decide)]
    exact fun _ _ => rfl
  refine v_X6_step (d := d + 3) ⟨nat_in (by omega) (by decide), nat_in (by omega) (by decide), ?_⟩
  rw [nI_clamp (by omega), nI_clamp (by omega), hP a (by omega), hP b hb]
  refine (resultOfC (d := d + 3) (v := v) hE.2.2.2.2.1).to ?_
  rintro _ m2 ⟨eq, rfl⟩
  obtain rfl := eq.symm
  rw [hon]
  have hw3 : w = 0 ∨ w = 1 ∨ w = 2 := by omega
  refine ⟨_, rfl, fun c => ⟨fun c1 => ?_, fun c1 => ?_⟩, fun c => ?_⟩
  · have : w = 2 := by
      rcases hw3 with rfl | rfl | rfl
      · exact absurd rfl c
      · exact absurd rfl c1
      · rfl
    subst this
    exact E40
  · have : w = 1 := by
      rcases hw3 with rfl | rfl | rfl
      · exact absurd rfl c
      · rfl
      · exact absurd c1 (by decide)
    subst this
    exact E40
  · have : w = 0 := by
      rcases hw3 with rfl | rfl | rfl
      · rfl
      · exact absurd c (by decide)
      · exact absurd c (by decide)
    subst this
    exact E40
theorem HC.self {f : Nat → Int32} (h : HC b m (f, p)) : HC b m (f, p) := h
/-- the powers told once for a state -/
theorem ex_8 {Q : Option Value → Wm → Prop} (ht : t < nS S) (K : ∀ m1, CI v p t S m0 m1 → AW ad E0 μX6_expand (d + 5) Q 39 [(0, .ref (ad 156)), (1, .ref (ad 3)), (2, .int (nI t)), (3, .int 0)] [] m1) :
    ∀ (k s : Nat) (m1 : Wm), s + k = nE v → WT m1 → Fx (RS [2, 10, 11, 14, 58]) m0 m1 → SC m1 S → SDp m1 S → HC 157 m1 (kS S t, p) → EC m1 v → (∀ j, j < s → m1.1 162 j = pwG v (kS S t, p) j) → ZI v S → AW ad E0 μX6_expand (d + 5) Q 8 [(0, .ref (ad 156)), (1, .ref (ad 3)), (2, .int (nI t)), (3, .int (nI s))] [] m1 := by
  intro k
  induction k with
  | zero =>
    intro s m1 hs w1 f1 s1 d1 h1 e1 k1 z1
    obtain rfl : s = nE v := hs
    have n8 := e1.2.2.1
    exact g_X6_expand_8 (d := d + 4) ⟨fun _ => K m1 ⟨w1, f1, s1, d1, h1, e1, k1, z1, ht⟩, fun c => absurd (by rw [e1.1]; exact (nI_leI (by omega) (by omega)).mpr (Nat.le_refl _)) c⟩
  | succ k ih =>
    intro s m1 hs w1 f1 s1 d1 h1 e1 k1 z1
    have n8 := e1.2.2.1
    refine g_X6_expand_8 (d := d + 4) ⟨fun c => absurd (by rw [e1.1] at c; exact (nI_leI (by omega) (by omega)).mp c) (by omega), fun _ => (powCb (d := d) SS_157 G11 w1 h1 e1 (s := s) (by omega)).to ?_⟩
    rintro _ m2 ⟨w2, f2, rfl⟩
    refine ⟨_, rfl, nat_in (by omega) (by decide), ?_⟩
    rw [nI_clamp (by omega), nI_1]
    have F : Fx (RS [58]) m2 (uI m2 162 s (pwG v (kS S t, p) s)) := Fx.i Fx.rf rfl
    refine ih (s + 1) _ (by omega) (w2.n rfl) ((f1.tr f2 (RS_sub rfl)).tr F (RS_sub rfl)) ((s1.fx f2 rfl).fx F rfl) (fun i hi => ⟨(u_ne (by omega)).trans ((d1.fx f2 rfl) i hi).1, (d1 i hi).2⟩) ((h1.fx SS_157 f2 rfl).fx SS_157 F rfl) ((e1.fx f2 rfl).fx F rfl) (fun j hj => ?_) z1
    by_cases c : j = s
    · subst c
      exact u_eq
    · exact (u_ne (fun q => c q.2)).trans ((f2.at (nRS (ρ := 58) rfl rfl)).trans (k1 j (by omega)))
/-- games of two, behind which R goes on; T is what comes of all -/
theorem ex_62 {Q : Option Value → Wm → Prop} {R : SSt → Option SSt} {T : Option SSt} (hw : w ≤ 2) (hN : ∀ m1, NJ m0 m1 → T = none → Q (some (.int 0)) m1)
    (K : ∀ S1 m1, CI v p t S1 m0 m1 → HW v p t w a (nE v) S1 → R S1 = T → AW ad E0 μX6_expand (d + 5) Q 47 [(0, .ref (ad 156)), (1, .ref (ad 3)), (2, .int (nI t)), (3, .int (nI w)), (4, .int (nI (a + 1)))] [] m1) :
    ∀ (k b : Nat) (S : SSt) (m1 : Wm), a < b → b + k = nE v → (xB v p t w a k b S).bind R = T → CI v p t S m0 m1 → HW v p t w a b S → AW ad E0 μX6_expand (d + 5) Q 62 [(0, .ref (ad 156)), (1, .ref (ad 3)), (2, .int (nI t)), (3, .int (nI w)), (4, .int (nI a)), (5, .int (nI b))] [] m1 := by
  intro k
  induction k with
  | zero =>
    intro b S m1 hab hk hT h hH
    obtain rfl : b = nE v := hk
    have n8 := h.e8
    have e33 := h.2.2.2.2.2.1.1
    refine g_X6_expand_62 (d := d + 4) ⟨fun _ => ?_, fun c => absurd (by rw [e33]; exact (nI_leI (by omega) (by omega)).mpr (Nat.le_refl _)) c⟩
    rw [nI_1]
    exact K S m1 h hH hT
  | succ k ih =>
    intro b S m1 hab hk hT h hH
    have n8 := h.e8
    have e33 := h.2.2.2.2.2.1.1
    have ht := h.2.2.2.2.2.2.2.2
    have hT' : ((xS v p t w a b S).bind (xB v p t w a k (b + 1))).bind R = T := hT
    refine g_X6_expand_62 (d := d + 4) ⟨fun c => absurd (by rw [e33] at c; exact (nI_leI (by omega) (by omega)).mp c) (by omega), fun _ => (stepC (d := d) h hw hab (by omega) hH).to ?_⟩
    rintro r m2 (⟨S', e, rfl, h2⟩ | ⟨e, rfl, h2⟩)
    · rw [e] at hT'
      refine ⟨1, rfl, fun _ => ?_, fun c => absurd c (by decide)⟩
      rw [nI_1]
      exact ih (b + 1) S' m2 (by omega) (by omega) hT' h2 (hH.st ht e)
    · rw [e] at hT'
      exact ⟨0, rfl, fun c => absurd rfl c, fun _ => hN m2 h2 hT'.symm⟩
theorem ex_47 {Q : Option Value → Wm → Prop} {R : SSt → Option SSt} {T : Option SSt} (hw : w ≤ 2) (hN : ∀ m1, NJ m0 m1 → T = none → Q (some (.int 0)) m1)
    (K : ∀ S1 m1 b, CI v p t S1 m0 m1 → HW v p t w (nE v) b S1 → R S1 = T → AW ad E0 μX6_expand (d + 5) Q 39 [(0, .ref (ad 156)), (1, .ref (ad 3)), (2, .int (nI t)), (3, .int (nI (w + 1)))] [] m1) :
    ∀ (k a : Nat) (S : SSt) (m1 : Wm), a + k = nE v → (xA v p t w (nE v) k a S).bind R = T → CI v p t S m0 m1 → HW v p t w a (a + 1) S → AW ad E0 μX6_expand (d + 5) Q 47 [(0, .ref (ad 156)), (1, .ref (ad 3)), (2, .int (nI t)), (3, .int (nI w)), (4, .int (nI a))] [] m1 := by
  intro k
  induction k with
  | zero =>
    intro a S m1 hk hT h hH
    obtain rfl : a = nE v := hk
    have n8 := h.e8
    have e33 := h.2.2.2.2.2.1.1
    refine g_X6_expand_47 (d := d + 4) ⟨fun _ => ?_, fun c => absurd (by rw [e33]; exact (nI_leI (by omega) (by omega)).mpr (Nat.le_refl _)) c⟩
    rw [nI_1]
    exact K S m1 _ h hH hT
  | succ k ih =>
    intro a S m1 hk hT h hH
    have n8 := h.e8
    have e33 := h.2.2.2.2.2.1.1
    have hT' : ((xB v p t w a (nE v - (a + 1)) (a + 1) S).bind (xA v p t w (nE v) k (a + 1))).bind R = T := hT
    rw [Option.bind_assoc] at hT'
    refine g_X6_expand_47 (d := d + 4) ⟨fun c => absurd (by rw [e33] at c; exact (nI_leI (by omega) (by omega)).mp c) (by omega), fun _ => ?_⟩
    rw [nI_1]
    exact ex_62 (d := d) hw hN (fun S1 m2 h2 hH2 hR => ih (a + 1) S1 m2 (by omega) hR h2 hH2.na) (nE v - (a + 1)) (a + 1) S m1 (by omega) (by omega) hT' h hH
theorem ex_39 {Q : Option Value → Wm → Prop} {T : Option SSt} (hN : ∀ m1, NJ m0 m1 → T = none → Q (some (.int 0)) m1) (hY : ∀ S1 m1, CI v p t S1 m0 m1 → T = some S1 → Q (some (.int 1)) m1) :
    ∀ (k w : Nat) (S : SSt) (m1 : Wm), w + k = 3 → xW v p t (nE v) k w S = T → CI v p t S m0 m1 → HW v p t w 0 (0 + 1) S → AW ad E0 μX6_expand (d + 5) Q 39 [(0, .ref (ad 156)), (1, .ref (ad 3)), (2, .int (nI t)), (3, .int (nI w))] [] m1 := by
  intro k
  induction k with
  | zero =>
    intro w S m1 hk hT h hH
    obtain rfl : w = 3 := hk
    exact g_X6_expand_39 (d := d + 4) ⟨fun _ => hY S m1 h hT.symm, fun c => absurd (by decide) c⟩
  | succ k ih =>
    intro w S m1 hk hT h hH
    have hT' : (xA v p t w (nE v) (nE v) 0 S).bind (xW v p t (nE v) k (w + 1)) = T := hT
    exact g_X6_expand_39 (d := d + 4) ⟨fun c => absurd ((le_l 3 3 rfl (by decide) (by omega)).mp c) (by omega), fun _ => ex_47 (d := d) (by omega) hN (fun S1 m2 b h2 hH2 hR => ih (w + 1) S1 m2 (by omega) hR h2 hH2.nw) (nE v) 0 S m1 (by omega) hT' h hH⟩
theorem expandC (h : EJ v p S m0 m) (ht : t < nS S) : Ct ad μX6_expand (d + 5) [.ref (ad 156), .ref (ad 3), .int (nI t)] m (fun r m' => (∃ S', xW v p t (nE v) 3 0 S = some S' ∧ r = some (.int 1) ∧ EJ v p S' m0 m') ∨ (xW v p t (nE v) 3 0 S = none ∧ r = some (.int 0) ∧ NJ m0 m')) := by
  obtain ⟨w0, f0, s0, d0, ⟨f, h0, hz⟩, e0, z0⟩ := h
  have n8 := e0.2.2.1
  have zt := (z0 t ht p).1.1
  refine v_X6_expand (d := d + 4) ((unpackAllC (d := d + 2) w0 s0 ht h0 e0.1 n8 (fun k k1 k2 => (hz k k1 k2).trans (zt k k1 k2).symm)).to ?_)
  rintro _ m1 ⟨rfl, w1, f1, h1⟩
  refine ⟨rfl, ?_⟩
  refine ex_8 (d := d) ht (fun m2 h2 => ?_) (nE v) 0 m1 (by omega) w1 (f0.tr f1 (RS_sub rfl)) (s0.fx f1 rfl) (d0.fx f1 rfl) h1 (e0.fx f1 rfl) (fun j hj => absurd hj (Nat.not_lt_zero j)) z0
  refine ex_39 (d := d) (T := xW v p t (nE v) 3 0 S) (fun m3 h3 e => Or.inr ⟨e, rfl, h3⟩) (fun S1 m3 h3 e => Or.inl ⟨S1, e, rfl, ?_⟩) 3 0 S m2 rfl rfl h2 ⟨fun _ a' b' q1 q2 q3 => by omega, fun q => absurd rfl q⟩
  obtain ⟨k1, k2, k3, k4, k5, k6, k7, k8, k9⟩ := h3
  exact ⟨k1, k2, k3, k4, ⟨_, k5, fun k q1 q2 => (k8 t k9 p).1.1 k q1 q2⟩, k6, k8⟩
theorem explore_51 {wi : Nat} (hwi : wi ≤ 3000) {T : Option SSt} : ∀ (k t : Nat) (S : SSt) (m1 : Wm), t + k = 3000 → xL v p wi k t S = T → EJ v p S m0 m1 → AW ad E0 μX6_explore (d + 6) (fun r m' => (∃ S', T = some S' ∧ r = some (.int 1) ∧ EJ v p S' m0 m') ∨ (T = none ∧ r = some (.int 0) ∧ NJ m0 m')) 51 [(0, .ref (ad 156)), (1, .ref (ad 3)), (3, .int (nI wi)), (4, .int (nI t))] [] m1 := by
  intro k
  induction k with
  | zero =>
    intro t S m1 hk hT h
    obtain rfl : t = 3000 := hk
    exact g_X6_explore_51 (d := d + 5) ⟨fun _ => Or.inl ⟨S, hT.symm, rfl, h⟩, fun c => absurd (by decide) c⟩
  | succ k ih =>
    intro t S m1 hk hT h
    have hN := h.2.2.1.n
    have c4 := h.2.2.1.c4
    have hT' : (if nS S ≤ t then some S else if dS S t < wi then (xW v p t (nE v) 3 0 S).bind (xL v p wi k (t + 1)) else some S) = T := hT
    refine g_X6_explore_51 (d := d + 5) ⟨fun c => absurd ((le_l 3000 3000 rfl (by decide) (by omega)).mp c) (by omega), fun _ => ⟨fun c => ?_, fun c => ?_⟩⟩
    · rw [c4] at c
      rw [if_pos ((nI_leI (by omega) (by omega)).mp c)] at hT'
      exact Or.inl ⟨S, hT'.symm, rfl, h⟩
    · rw [c4] at c
      have ht : t < nS S := Nat.lt_of_not_le (fun z => c ((nI_leI (by omega) (by omega)).mpr z))
      obtain ⟨e65, dl⟩ := h.2.2.2.1 t ht
      rw [if_neg (by omega)] at hT'
      rw [nI_clamp (by omega), e65]
      refine ⟨nat_in (by omega) (by decide), fun c2 => ?_, fun c2 => ?_⟩
      · have hd := (nI_ltI (a := dS S t) (b := wi) (by omega) (by omega)).mp c2
        rw [if_pos hd] at hT'
        refine (expandC (d := d) h ht).to ?_
        rintro r m2 (⟨S', e, rfl, h2⟩ | ⟨e, rfl, h2⟩)
        · rw [e] at hT'
          refine ⟨1, rfl, fun _ => ?_, fun c => absurd c (by decide)⟩
          rw [nI_1]
          exact ih (t + 1) S' m2 (by omega) hT' h2
        · rw [e] at hT'
          exact ⟨0, rfl, fun c => absurd rfl c, fun _ => Or.inr ⟨hT'.symm, rfl, h2⟩⟩
      · have hd : ¬ dS S t < wi := fun z => c2 ((nI_ltI (by omega) (by omega)).mpr z)
        rw [if_neg hd] at hT'
        exact Or.inl ⟨S, hT'.symm, rfl, h⟩
theorem s0S_e {f : Nat → Int32} : adS f 0 (0, (fun _ => f), fun _ => 0) = s0S f := by
  unfold adS s0S
  refine Prod.ext rfl (Prod.ext (funext fun i => ?_) (funext fun i => ?_))
  · show (if i = 0 then f else f) = f
    split <;> rfl
  · show (if i = 0 then 0 else 0) = 0
    split <;> rfl
theorem exploreC (w0 : WT m) (hW : SWx m) (hc : HC 21 m g) (hE : EC m v) (hz : ZB v g) {wi : Nat} (hwi : wi ≤ 3000) : Ct ad μX6_explore (d + 6) [.ref (ad 156), .ref (ad 3), .ref (ad 21), .int (nI wi)] m (fun r m' => (∃ S', srG v g wi = some S' ∧ r = some (.int 1) ∧ EJ v g.2 S' m m') ∨ (srG v g wi = none ∧ r = some (.int 0) ∧ NJ m m')) := by
  refine v_X6_explore (d := d + 5) SS_21.1 ((copyC (d := d + 4) w0 SS_157 SS_21 (Or.inl (by decide)) hc).to ?_)
  rintro _ m1 ⟨rfl, w1, f1, h1⟩
  obtain ⟨N, hW1⟩ := hW.fx f1 rfl
  refine ⟨rfl, (clearC (d := d + 5) w1 hW1).to ?_⟩
  rintro _ m2 ⟨rfl, w2, f2, t2⟩
  have h2 : HC 157 m2 (g.1, g.2) := h1.fx SS_157 f2 rfl
  have s2 : SC m2 (0, (fun _ => g.1), fun _ => 0) := ⟨t2, fun i hi => absurd hi (Nat.not_lt_zero i)⟩
  refine ⟨rfl, (putSkC (d := d + 3) w2 SS_157 h2 hz.1.2 s2).to ?_⟩
  rintro r m3 ⟨w3, f3, q⟩
  rcases q with ⟨i, hi, -⟩ | ⟨-, q, -⟩ | ⟨-, -, rfl, -, s3⟩
  · exact absurd hi (Nat.not_lt_zero i)
  · exact absurd (show (0 : Nat) < 3000 by decide) q
  refine ⟨_, rfl, ?_⟩
  have s3' := s3 0
  rw [s0S_e] at s3'
  have F1 : Fx (RS [2, 10, 11, 14, 58]) m m3 := (((Fx.rf (S := RS [2, 10, 11, 14, 58])).tr f1 (RS_sub rfl)).tr f2 (RS_sub rfl)).tr f3 (RS_sub rfl)
  have F : Fx (RS [58]) m3 (uI (uI (uI m3 163 (0 : Int32).toNatClampNeg (-1 : Int32)) 164 (0 : Int32).toNatClampNeg (-1 : Int32)) 165 (0 : Int32).toNatClampNeg (0 : Int32)) := Fx.i (Fx.i (Fx.i Fx.rf rfl) rfl) rfl
  refine explore_51 (d := d) hwi 3000 0 (s0S g.1) _ rfl rfl ⟨((w3.t (a := 163) rfl (by decide) (by decide)).n rfl).t (a := 165) (lo := 0) (hi := ((0 : Nat) : Int)) rfl (by decide) (by decide), F1.tr F (RS_sub rfl), s3'.fx F rfl, fun i hi => ?_, ⟨g.1, ((h2.fx SS_157 f3 rfl).fx SS_157 F rfl), fun k k1 k2 => hz.1.1 k k1 k2⟩, (((hE.fx f1 rfl).fx f2 rfl).fx f3 rfl).fx F rfl, fun i hi p => hz.of rfl⟩
  have hi0 : i = 0 := Nat.lt_one_iff.mp hi
  subst hi0
  exact ⟨u_eq, Nat.le_refl _⟩
end SRC
end
section
/-! A GAME OF THE MODEL'S, ALL 32 SKILLS TOLD -/
def HX (n : Nat) (m : Wm) (g : GS) : Prop := (∀ k, k < 32 → m.1 188 k = g.1 k) ∧ (∀ k, k < n → m.1 190 k = g.2.1 k) ∧ (∀ k, k < n → m.1 191 k = g.2.2.1 k) ∧ (∀ k, k < n → m.1 192 k = g.2.2.2.1 k) ∧ m.1 187 8 = g.2.2.2.2
section HXS
variable {m m' : Wm} {g : GS} {S : List Nat}
theorem HX.hm {n : Nat} (h : HX n m g) (h8 : n ≤ 8) : HM n m g := ⟨fun k hk => h.1 k (by omega), h.2⟩
theorem HX.fx {n : Nat} (h : HX n m g) (f : Fx (RS S) m m') (e : S.elem 24 = false) (e2 : S.elem 49 = false) : HX n m' g := by
  obtain ⟨h1, h2, h3, h4, h5⟩ := h
  exact ⟨fun k hk => (f.at (nRS (ρ := 24) e rfl)).trans (h1 k hk), fun k hk => (f.at (nRS (ρ := 24) e rfl)).trans (h2 k hk), fun k hk => (f.at (nRS (ρ := 24) e rfl)).trans (h3 k hk), fun k hk => (f.at (nRS (ρ := 24) e rfl)).trans (h4 k hk), (f.at (nRS (ρ := 49) e2 rfl)).trans h5⟩
theorem HX.sk {n : Nat} (h : HX n m g) {i : Nat} {x : Int32} : HX n (uI m 188 i x) (upd g.1 i x, g.2) := by
  obtain ⟨h1, h2, h3, h4, h5⟩ := h
  refine ⟨fun k hk => ?_, h2, h3, h4, h5⟩
  rw [uI_row]
  exact upd_eq (h1 k hk)
theorem HX.pt {n : Nat} (h : HX n m g) {i : Nat} {x : Int32} : HX n (uI m 190 i x) (g.1, upd g.2.1 i x, g.2.2) := by
  obtain ⟨h1, h2, h3, h4, h5⟩ := h
  refine ⟨h1, fun k hk => ?_, h3, h4, h5⟩
  rw [uI_row]
  exact upd_eq (h2 k hk)
theorem HX.ra {n : Nat} (h : HX n m g) {i : Nat} {x : Int32} : HX n (uI m 191 i x) (g.1, g.2.1, upd g.2.2.1 i x, g.2.2.2) := by
  obtain ⟨h1, h2, h3, h4, h5⟩ := h
  refine ⟨h1, h2, fun k hk => ?_, h4, h5⟩
  rw [uI_row]
  exact upd_eq (h3 k hk)
theorem HX.th {n : Nat} (h : HX n m g) {i : Nat} {x : Int32} : HX n (uI m 192 i x) (g.1, g.2.1, g.2.2.1, upd g.2.2.2.1 i x, g.2.2.2.2) := by
  obtain ⟨h1, h2, h3, h4, h5⟩ := h
  refine ⟨h1, h2, h3, fun k hk => ?_, h5⟩
  rw [uI_row]
  exact upd_eq (h4 k hk)
end HXS
section MOX
variable {ad : Nat → Nat} {d s f t a e : Nat} {m m' m0 : Wm} {g : GS} {v : EV} {S : List Nat}
set_option maxHeartbeats 1000000 in
theorem teachX (w : WT m) (f0 : Fx (RS [24]) m0 m) (h : HX (nE v) m g) (hE : EM m v) (hf : f < nE v) (ht : t < nE v) (hft : f ≠ t) : Ct ad μX12_teach (d + 2) [.ref (ad 187), .int (nI f), .int (nI t)] m (fun r m' => r = none ∧ WT m' ∧ Fx (RS [24]) m0 m' ∧ HX (nE v) m' (tchG true v f t g)) := by
  have e22 : (2 : Int32).toNatClampNeg = 2 := rfl
  have ha4 := hE.2.2.2.1
  have hn8 := hE.2.2.1
  refine v_X12_teach (d := d + 1) ((artM (d := d + 1) (h.hm hn8) hE hf ht).to ?_)
  rintro _ m1 ⟨eq, rfl⟩
  obtain rfl := eq.symm
  refine ⟨_, rfl, fun c => ?_, fun c => ⟨rfl, w, f0, ?_⟩⟩
  · rcases artG_of (s := g.1) (f := f) (t := t) (n := aE v) with q | ⟨a, ha, q⟩
    · exact absurd q c
    have G : tchG true v f t g = (upd (upd g.1 (4 * t + a) (g.1 (4 * t + a) + gnG (iE v f) (lE v 1) (g.1 (4 * t + a)) (g.1 (4 * f + a)))) (4 * f + a) (clS (g.1 (4 * f + a) + lE v 2 - 1)), g.2.1, upd g.2.2.1 f (g.2.2.1 f + gnG (iE v f) (lE v 1) (g.1 (4 * t + a)) (g.1 (4 * f + a))), g.2.2.2) := by
      unfold tchG gainG
      rw [if_neg c, q, nI_clamp (by omega), if_pos rfl]
    rw [G, q]
    refine (gainM (d := d) (h.hm hn8) hE hf ht (a := a) (by omega)).to ?_
    rintro _ m2 ⟨eq, rfl⟩
    obtain rfl := eq.symm
    generalize gnG (iE v f) (lE v 1) (g.1 (4 * t + a)) (g.1 (4 * f + a)) = n
    refine ⟨_, rfl, ?_⟩
    rw [m_ix, m_ix, nI_clamp (by omega), nI_clamp (by omega), nI_clamp (by omega), h.1 (4 * t + a) (by omega), e22]
    have r1 : (uI m 188 (4 * t + a) (g.1 (4 * t + a) + n)).1 191 f = g.2.2.1 f := h.2.2.1 f hf
    rw [r1]
    have r2 : (uI (uI m 188 (4 * t + a) (g.1 (4 * t + a) + n)) 191 f (g.2.2.1 f + n)).1 188 (4 * f + a) = g.1 (4 * f + a) := (u_ne (by omega)).trans ((u_ne (by omega)).trans (h.1 (4 * f + a) (by omega)))
    have r3 : (uI (uI m 188 (4 * t + a) (g.1 (4 * t + a) + n)) 191 f (g.2.2.1 f + n)).1 193 2 = lE v 2 := hE.2.2.2.2.1 2 (by decide)
    rw [r2, r3]
    have V1 : vp_in (nI (4 * t + a)) 32 := nat_in (by omega) (by decide)
    have V2 : vp_in (nI (4 * f + a)) 32 := nat_in (by omega) (by decide)
    have V3 : vp_in (nI f) 8 := nat_in (by omega) (by decide)
    exact ⟨V1, V1, V3, V3, V2, V2, rfl, ((w.n rfl).n rfl).n rfl, ((f0.i rfl).i rfl).i rfl, ((h.sk).ra).sk⟩
  · unfold tchG
    rw [if_pos c]
    exact h
set_option maxHeartbeats 1000000 in
theorem settleX (w : WT m) (h : HX (nE v) m g) (hE : EM m v) (ha : a < nE v) (he : e < nE v) (hae : a ≠ e) {th x4 : Int32} (ht : th = 0 ∨ th = 1 ∨ th = 2 ∨ th = 3) :
    Ct ad μX12_settle (d + 3) [.ref (ad 187), .int (nI a), .int (nI e), .int th, .int x4] m (fun r m' => r = none ∧ WT m' ∧ Fx (RS [24]) m m' ∧ HX (nE v) m' (stlG true v a e x4 (thG th a e g))) := by
  have e00 : (0 : Int32).toNatClampNeg = 0 := rfl
  have hn8 := hE.2.2.1
  have lw0 : ∀ m1, Fx (RS [24]) m m1 → m1.1 193 0 = lE v 0 := fun m1 f1 => (f1.at (nRS (ρ := 47) rfl rfl)).trans (hE.2.2.2.2.1 0 (by decide))
  have V1 : vp_in (nI a) 8 := nat_in (by omega) (by decide)
  have V2 : vp_in (nI e) 8 := nat_in (by omega) (by decide)
  have WL : ∀ (wi lo : Nat) (g1 : GS) (m1 : Wm), wi < nE v → lo < nE v → wi ≠ lo → WT m1 → Fx (RS [24]) m m1 → HX (nE v) m1 g1 → AW ad E0 μX12_settle (d + 2 + 1) (fun r m' => r = none ∧ WT m' ∧ Fx (RS [24]) m m' ∧ HX (nE v) m' (stl2 true v wi lo (stl1 true v wi lo (g1.1, upd g1.2.1 wi (g1.2.1 wi + 3), g1.2.2)))) 85 [(0, .ref (ad 187)), (5, .int (nI wi))] [.int (nI lo)] m1 := by
    intro wi lo g1 m1 hwi hlo hwl w1 f1 H1
    have B : ∀ (g2 : GS) (m2 : Wm), WT m2 → Fx (RS [24]) m m2 → HX (nE v) m2 g2 → AW ad E0 μX12_settle (d + 2 + 1) (fun r m' => r = none ∧ WT m' ∧ Fx (RS [24]) m m' ∧ HX (nE v) m' (stl2 true v wi lo g2)) 125 [(0, .ref (ad 187)), (5, .int (nI wi)), (6, .int (nI lo))] [] m2 := by
      intro g2 m2 w2 f2 H2
      have T : lE v 0 = 1 ∨ lE v 0 = 2 → Ct ad μX12_teach (d + 2) [.ref (ad 187), .int (nI lo), .int (nI wi)] m2 (fun r m1 => r = none ∧ WT m1 ∧ Fx (RS [24]) m m1 ∧ HX (nE v) m1 (stl2 true v wi lo g2)) := fun q => by
        refine (teachX (d := d) w2 f2 H2 (hE.fx f2 rfl) hlo hwi (Ne.symm hwl)).to ?_
        rintro _ m3 ⟨rfl, w3, f3, H3⟩
        refine ⟨rfl, w3, f3, ?_⟩
        unfold stl2
        rw [if_pos q]
        exact H3
      refine g_X12_settle_125 ?_
      rw [e00, lw0 m2 f2]
      refine ⟨fun q => (T (Or.inl q)).to (fun r m1 z => ⟨z.1, rfl, z.2⟩), fun n1 => ⟨fun n2 => ⟨rfl, w2, f2, ?_⟩, fun q => (T (Or.inr q)).to (fun r m1 z => ⟨z.1, rfl, z.2⟩)⟩⟩
      unfold stl2
      rw [if_neg (fun z => z.elim n1 n2)]
      exact H2
    have H3 : HX (nE v) (uI m1 190 wi (g1.2.1 wi + 3)) (g1.1, upd g1.2.1 wi (g1.2.1 wi + 3), g1.2.2) := H1.pt
    have w3 : WT (uI m1 190 wi (g1.2.1 wi + 3)) := w1.n rfl
    have f3 : Fx (RS [24]) m (uI m1 190 wi (g1.2.1 wi + 3)) := f1.i rfl
    generalize (g1.1, upd g1.2.1 wi (g1.2.1 wi + 3), g1.2.2) = g3 at H3 ⊢
    have T : lE v 0 = 0 ∨ lE v 0 = 2 → Ct ad μX12_teach (d + 2) [.ref (ad 187), .int (nI wi), .int (nI lo)] (uI m1 190 wi (g1.2.1 wi + 3)) (fun r m2 => r = none ∧ AW ad E0 μX12_settle (d + 2 + 1) (fun r m' => r = none ∧ WT m' ∧ Fx (RS [24]) m m' ∧ HX (nE v) m' (stl2 true v wi lo (stl1 true v wi lo g3))) 125 [(0, .ref (ad 187)), (5, .int (nI wi)), (6, .int (nI lo))] [] m2) := fun q => by
      refine (teachX (d := d) w3 f3 H3 (hE.fx f3 rfl) hwi hlo hwl).to ?_
      rintro _ m4 ⟨rfl, w4, f4, H4⟩
      refine ⟨rfl, ?_⟩
      have es : stl1 true v wi lo g3 = tchG true v wi lo g3 := if_pos q
      rw [es]
      exact B _ _ w4 f4 H4
    refine g_X12_settle_85 ?_
    rw [nI_clamp (by omega), H1.2.1 wi hwi, e00, lw0 _ f3]
    refine ⟨nat_in (by omega) (by decide), nat_in (by omega) (by decide), fun q => T (Or.inl q), fun n0 => ⟨fun n2 => ?_, fun q => T (Or.inr q)⟩⟩
    have es : stl1 true v wi lo g3 = g3 := if_neg (fun z => z.elim n0 n2)
    rw [es]
    exact B _ _ w3 f3 H3
  have A : ∀ (g1 : GS) (m1 : Wm), WT m1 → Fx (RS [24]) m m1 → HX (nE v) m1 g1 → AW ad E0 μX12_settle (d + 2 + 1) (fun r m' => r = none ∧ WT m' ∧ Fx (RS [24]) m m' ∧ HX (nE v) m' (stlG true v a e x4 g1)) 36 [(0, .ref (ad 187)), (1, .int (nI a)), (2, .int (nI e)), (4, .int x4)] [] m1 := by
    intro g1 m1 w1 f1 H1
    refine g_X12_settle_36 ⟨fun n2 => ⟨fun n0 => ⟨fun _ => ?_, fun q => absurd q n0⟩, fun q0 => ⟨fun q => absurd q0 q, fun _ => ?_⟩⟩, fun q2 => ?_⟩
    · have := WL e a g1 m1 he ha (Ne.symm hae) w1 f1 H1
      unfold stlG ptG
      rw [if_neg n2, if_neg n0, if_neg n0, if_pos rfl, if_neg n2]
      exact this
    · have := WL a e g1 m1 ha he hae w1 f1 H1
      unfold stlG ptG
      rw [if_neg n2, if_pos q0, if_pos q0, if_pos rfl, if_neg n2]
      exact this
    · rw [nI_clamp (by omega), nI_clamp (by omega), H1.2.1 a ha]
      have e1 : (uI m1 190 a (g1.2.1 a + 1)).1 190 e = upd g1.2.1 a (g1.2.1 a + 1) e := H1.pt.2.1 e he
      rw [e1]
      refine ⟨V1, V1, V2, V2, rfl, (w1.n rfl).n rfl, (f1.i rfl).i rfl, ?_⟩
      unfold stlG ptG
      rw [if_pos q2, if_pos rfl, if_pos q2]
      exact (H1.pt).pt
  have M : ∀ (g1 : GS) (m1 : Wm), WT m1 → Fx (RS [24]) m m1 → HX (nE v) m1 g1 → AW ad E0 μX12_settle (d + 2 + 1) (fun r m' => r = none ∧ WT m' ∧ Fx (RS [24]) m m' ∧ HX (nE v) m' (stlG true v a e x4 (g1.1, g1.2.1, g1.2.2.1, (if th = 2 ∨ th = 3 then upd g1.2.2.2.1 e (g1.2.2.2.1 e + 1) else g1.2.2.2.1), g1.2.2.2.2))) 18 [(0, .ref (ad 187)), (1, .int (nI a)), (2, .int (nI e)), (3, .int th), (4, .int x4)] [] m1 := by
    intro g1 m1 w1 f1 H1
    refine g_X12_settle_18 ((hasM_3 (y := 1) (Or.inr rfl) ht).to ?_)
    rintro _ m2 ⟨eq, rfl⟩
    obtain rfl := eq.symm
    refine ⟨_, rfl, fun c => ?_, fun c => ?_⟩
    · have n2 : ¬ (th = 2 ∨ th = 3) := fun z => by rw [if_pos (Or.inr ⟨rfl, z⟩)] at c; exact absurd c (by decide)
      rw [if_neg n2]
      exact A g1 m1 w1 f1 H1
    · have n2 : th = 2 ∨ th = 3 := by
        by_cases z : th = 2 ∨ th = 3
        · exact z
        · rw [if_neg (fun q => q.elim (fun q => absurd q.1 (by decide)) (fun q => z q.2))] at c; exact absurd rfl c
      rw [if_pos n2, nI_clamp (by omega), H1.2.2.2.1 e he]
      exact ⟨V2, V2, A _ _ (w1.n rfl) (f1.i rfl) H1.th⟩
  refine v_X12_settle ((hasM_3 (y := 0) (Or.inl rfl) ht).to ?_)
  rintro _ m2 ⟨eq, rfl⟩
  obtain rfl := eq.symm
  refine ⟨_, rfl, fun c => ?_, fun c => ?_⟩
  · have n2 : ¬ (th = 1 ∨ th = 3) := fun z => by rw [if_pos (Or.inl ⟨rfl, z⟩)] at c; exact absurd c (by decide)
    have := M g m w Fx.rf h
    unfold thG
    rw [if_neg n2]
    exact this
  · have n2 : th = 1 ∨ th = 3 := by
      by_cases z : th = 1 ∨ th = 3
      · exact z
      · rw [if_neg (fun q => q.elim (fun q => z q.2) (fun q => absurd q.1 (by decide)))] at c; exact absurd rfl c
    have := M _ _ (w.n (a := 192) (k := a) (v := g.2.2.2.1 a + 1) rfl) (Fx.rf.i rfl) h.th
    unfold thG
    rw [if_pos n2, nI_clamp (by omega), h.2.2.2.1 a ha]
    exact ⟨V1, V1, this⟩
end MOX
section QTX
variable {ad : Nat → Nat} {d n s a e : Nat} {m m0 : Wm} {g g' g0 : GS} {v : EV} {th : Int32}
theorem goQuietX (w : WT m) (h : HX (nE v) m g) (hE : EM m v) (hL : HL (nE v) 204 0 m g0) (h2 : g.2 = g0.2) (ha : a < nE v) (he : e < nE v) (hae : a ≠ e) (ht : th = 0 ∨ th = 1 ∨ th = 2 ∨ th = 3) : Ct ad μX12_goQuiet (d + 170) [.ref (ad 187), .int (nI a), .int (nI e), .int th] m (fun r m' => r = none ∧ WT m' ∧ Fx (RS [22, 24, 28]) m m' ∧ HX (nE v) m' (qtG v a e th g)) := by
  refine v_X12_goQuiet (d := d + 169) ((winnerM (d := d) w (h.hm hE.2.2.1) hE ha he).to ?_)
  rintro _ m1 ⟨w1, f1, rfl⟩
  refine ⟨_, rfl, (settleX (d := d + 166) w1 (h.fx f1 rfl rfl) (hE.fx f1 rfl) ha he hae ht).to ?_⟩
  rintro _ m2 ⟨rfl, w2, f2, hm2⟩
  have F2 : Fx (RS [22, 24, 28]) m m2 := (Fx.tr Fx.rf f1 (RS_sub rfl)).tr f2 (RS_sub rfl)
  refine ⟨rfl, ?_⟩
  have L : ∀ (n j : Nat) (m3 : Wm), j + n = 8 → WT m3 → Fx (RS [22, 24, 28]) m m3 → (∀ k, m3.1 188 k = m2.1 188 k) → m3.1 187 8 = m2.1 187 8 → (∀ k, k < j → k < nE v → m3.1 190 k = g0.2.1 k ∧ m3.1 191 k = g0.2.2.1 k ∧ m3.1 192 k = g0.2.2.2.1 k) → AW ad E0 μX12_goQuiet (d + 170) (fun r m' => r = none ∧ WT m' ∧ Fx (RS [22, 24, 28]) m m' ∧ HX (nE v) m' (qtG v a e th g)) 17 [(0, .ref (ad 187)), (4, .int (nI j))] [] m3 := by
    intro n
    induction n with
    | zero =>
      intro j m3 hj w3 f3 k1 k2 k3
      refine g_X12_goQuiet_17 (d := d + 169) ⟨fun _ => ⟨rfl, w3, f3, fun k hk => ?_, fun k hk => ?_, fun k hk => ?_, fun k hk => ?_, ?_⟩, fun c => absurd ((le_l 8 8 rfl (by decide) (by omega)).mpr (by omega)) c⟩
      · rw [k1 k, hm2.1 k hk]
        have e1 : (stlG true v a e (wnG v g a e th) (thG th a e g)).1 = (qtG v a e th g).1 := stl_sk (g := thG th a e g) (g' := g) rfl
        exact congrFun e1 k
      · have e2 : (qtG v a e th g).2 = g0.2 := stl_f2.trans h2
        rw [e2]
        exact (k3 k (by have := hE.2.2.1; omega) hk).1
      · have e2 : (qtG v a e th g).2 = g0.2 := stl_f2.trans h2
        rw [e2]
        exact (k3 k (by have := hE.2.2.1; omega) hk).2.1
      · have e2 : (qtG v a e th g).2 = g0.2 := stl_f2.trans h2
        rw [e2]
        exact (k3 k (by have := hE.2.2.1; omega) hk).2.2
      · rw [k2, hm2.2.2.2.2]
        have e2 : (qtG v a e th g).2 = g.2 := stl_f2
        rw [e2, stl_lu]
        rfl
    | succ n ih =>
      intro j m3 hj w3 f3 k1 k2 k3
      have hL3 : HL (nE v) 204 0 m3 g0 := hL.fx (ρ := 34) f3 (fun _ => rfl) rfl
      refine g_X12_goQuiet_17 (d := d + 169) ⟨fun c => absurd ((le_l 8 8 rfl (by decide) (by omega)).mp c) (by omega), fun _ => ?_⟩
      rw [l_mul 3 3 rfl, l_add 32 32 rfl, add_l 1 1 rfl, add_l 2 2 rfl, nI_clamp (by omega), nI_clamp (by omega), nI_clamp (by omega), nI_clamp (by omega), nI_1]
      refine ⟨nat_in (by omega) (by decide), nat_in (by omega) (by decide), nat_in (by omega) (by decide), nat_in (by omega) (by decide), nat_in (by omega) (by decide), nat_in (by omega) (by decide), ?_⟩
      refine ih (j + 1) _ (by omega) (((w3.n rfl).n rfl).n rfl) (((f3.i rfl).i rfl).i rfl) (fun k => ?_) ?_ (fun k hk hn => ?_)
      · exact ((u_ne (by omega)).trans ((u_ne (by omega)).trans (u_ne (by omega)))).trans (k1 k)
      · exact ((u_ne (by omega)).trans ((u_ne (by omega)).trans (u_ne (by omega)))).trans k2
      · obtain ⟨-, -, l1, l2, l3, -⟩ := hL3
        by_cases q : k = j
        · subst q
          have t1 := l1 k hn
          have t2 := l2 k hn
          have t3 := l3 k hn
          rw [Nat.zero_add] at t1 t2 t3
          refine ⟨?_, ?_, ?_⟩
          · exact (u_ne (by omega)).trans ((u_ne (by omega)).trans (u_eq.trans t1))
          · exact (u_ne (by omega)).trans (u_eq.trans ((u_ne (by omega)).trans t2))
          · exact u_eq.trans ((u_ne (by omega)).trans ((u_ne (by omega)).trans t3))
        · obtain ⟨p1, p2, p3⟩ := k3 k (by omega) hn
          refine ⟨?_, ?_, ?_⟩
          · exact (u_ne (by omega)).trans ((u_ne (by omega)).trans ((u_ne (by omega)).trans p1))
          · exact (u_ne (by omega)).trans ((u_ne (by omega)).trans ((u_ne (by omega)).trans p2))
          · exact (u_ne (by omega)).trans ((u_ne (by omega)).trans ((u_ne (by omega)).trans p3))
  exact L 8 0 m2 (by omega) w2 F2 (fun _ => rfl) rfl (fun k hk => absurd hk (by omega))
end QTX
section STB
variable {ad : Nat → Nat} {d b ρ : Nat} {m m0 : Wm} {g : GS} {v : EV}
theorem strCb (hb : SS b ρ) (hρ : GR ρ) (w : WT m) (hc : HC b m g) (ec : EC m v) (hn0 : 0 < nE v) : Ct ad μX1_strongest (d + 5) [.ref (ad 3), .ref (ad b)] m (fun r m' => WT m' ∧ Fx (RS [14]) m m' ∧ r = some (.int (nI (bsF (pwG v g) (nE v))))) := by
  have n8 := ec.2.2.1
  have L : ∀ (j k : Nat) (m1 : Wm), 1 ≤ k → k + j = nE v → WT m1 → Fx (RS [14]) m m1 → AW ad E0 μX1_strongest (d + 5) (fun r m' => WT m' ∧ Fx (RS [14]) m m' ∧ r = some (.int (nI (bsF (pwG v g) (nE v))))) 7 [(0, .ref (ad 3)), (1, .ref (ad b)), (2, .int (nI (bsF (pwG v g) k))), (3, .int (pwG v g (bsF (pwG v g) k))), (4, .int (nI k))] [] m1 := by
    intro j
    induction j with
    | zero =>
      intro k m1 h1 hk w1 f1
      have e33 : m1.1 3 3 = nI (nE v) := (ec.fx f1 rfl).1
      obtain rfl : k = nE v := hk
      exact g_X1_strongest_7 (d := d + 4) hb.1 ⟨fun _ => ⟨w1, f1, rfl⟩, fun z => absurd (by rw [e33]; exact (nI_leI (a := nE v) (b := nE v) (by omega) (by omega)).mpr (Nat.le_refl _)) z⟩
    | succ j ih =>
      intro k m1 h1 hk w1 f1
      have ec1 := ec.fx f1 rfl
      have e33 : m1.1 3 3 = nI (nE v) := ec1.1
      refine g_X1_strongest_7 (d := d + 4) hb.1 ⟨fun z => absurd (by rw [e33] at z; exact (nI_leI (a := nE v) (b := k) (by omega) (by omega)).mp z) (by omega), fun _ => (powCb (d := d) hb hρ (s := k) w1 (hc.fx hb f1 hρ.e2) ec1 (by omega)).to ?_⟩
      rintro _ m2 ⟨w2, f2, rfl⟩
      have := ih (k + 1) m2 (by omega) (by omega) w2 (f1.tr f2 (fun _ _ h => h))
      rw [nI_1]
      refine ⟨_, rfl, fun z => absurd ((nI_eq (a := k) (b := 0) (by omega) (by omega)).mp z) (by omega), fun _ => ⟨fun q => ?_, fun q => ?_⟩⟩
      · rw [bsF_p q] at this
        exact this
      · rw [bsF_n q] at this
        exact this
  refine v_X1_strongest (d := d + 4) hb.1 (g_X1_strongest_7 (d := d + 4) hb.1 ⟨fun z => absurd (by rw [ec.1] at z; exact (nI_leI (a := nE v) (b := 0) (by omega) (by omega)).mp z) (by omega), fun _ => (powCb (d := d) hb hρ (s := 0) w hc ec (by decide)).to ?_⟩)
  rintro _ m2 ⟨w2, f2, rfl⟩
  refine ⟨_, rfl, fun _ => ?_, fun z => absurd rfl z⟩
  have := L (nE v - 1) 1 m2 (by decide) (by omega) w2 f2
  rw [bsF_1] at this
  exact this
theorem weaCb (hb : SS b ρ) (hρ : GR ρ) (w : WT m) (hc : HC b m g) (ec : EC m v) (hn0 : 0 < nE v) : Ct ad μX1_weakest (d + 5) [.ref (ad 3), .ref (ad b)] m (fun r m' => WT m' ∧ Fx (RS [14]) m m' ∧ r = some (.int (nI (wkF (pwG v g) (nE v))))) := by
  have n8 := ec.2.2.1
  have L : ∀ (j k : Nat) (m1 : Wm), 1 ≤ k → k + j = nE v → WT m1 → Fx (RS [14]) m m1 → AW ad E0 μX1_weakest (d + 5) (fun r m' => WT m' ∧ Fx (RS [14]) m m' ∧ r = some (.int (nI (wkF (pwG v g) (nE v))))) 7 [(0, .ref (ad 3)), (1, .ref (ad b)), (2, .int (nI (wkF (pwG v g) k))), (3, .int (pwG v g (wkF (pwG v g) k))), (4, .int (nI k))] [] m1 := by
    intro j
    induction j with
    | zero =>
      intro k m1 h1 hk w1 f1
      have e33 : m1.1 3 3 = nI (nE v) := (ec.fx f1 rfl).1
      obtain rfl : k = nE v := hk
      exact g_X1_weakest_7 (d := d + 4) hb.1 ⟨fun _ => ⟨w1, f1, rfl⟩, fun z => absurd (by rw [e33]; exact (nI_leI (a := nE v) (b := nE v) (by omega) (by omega)).mpr (Nat.le_refl _)) z⟩
    | succ j ih =>
      intro k m1 h1 hk w1 f1
      have ec1 := ec.fx f1 rfl
      have e33 : m1.1 3 3 = nI (nE v) := ec1.1
      refine g_X1_weakest_7 (d := d + 4) hb.1 ⟨fun z => absurd (by rw [e33] at z; exact (nI_leI (a := nE v) (b := k) (by omega) (by omega)).mp z) (by omega), fun _ => (powCb (d := d) hb hρ (s := k) w1 (hc.fx hb f1 hρ.e2) ec1 (by omega)).to ?_⟩
      rintro _ m2 ⟨w2, f2, rfl⟩
      have := ih (k + 1) m2 (by omega) (by omega) w2 (f1.tr f2 (fun _ _ h => h))
      rw [nI_1]
      refine ⟨_, rfl, fun z => absurd ((nI_eq (a := k) (b := 0) (by omega) (by omega)).mp z) (by omega), fun _ => ⟨fun q => ?_, fun q => ?_⟩⟩
      · rw [wkF_p q] at this
        exact this
      · rw [wkF_n q] at this
        exact this
  refine v_X1_weakest (d := d + 4) hb.1 (g_X1_weakest_7 (d := d + 4) hb.1 ⟨fun z => absurd (by rw [ec.1] at z; exact (nI_leI (a := nE v) (b := 0) (by omega) (by omega)).mp z) (by omega), fun _ => (powCb (d := d) hb hρ (s := 0) w hc ec (by decide)).to ?_⟩)
  rintro _ m2 ⟨w2, f2, rfl⟩
  refine ⟨_, rfl, fun _ => ?_, fun z => absurd rfl z⟩
  have := L (nE v - 1) 1 m2 (by decide) (by omega) w2 f2
  rw [wkF_1] at this
  exact this
end STB
section SPN
variable {ad : Nat → Nat} {d : Nat} {m m0 : Wm} {g : GS} {v : EV}
theorem spreadNowM (w : WT m) (hm : HM (nE v) m g) (em : EM m v) : Ct ad μX12_spreadNow (d + 169) [.ref (ad 187)] m (fun r m' => WT m' ∧ Fx (RS [22, 28, 33]) m m' ∧ r = some (.int (sprA v g))) := by
  have n8 := em.2.2.1
  have wa : WT (uI (uI m 187 34 (0 : Int32)) 187 35 (0 : Int32)) := (w.n rfl).n rfl
  have fa : Fx (RS [22, 28, 33]) m (uI (uI m 187 34 (0 : Int32)) 187 35 (0 : Int32)) := Fx.i (Fx.i Fx.rf rfl) rfl
  refine v_X12_spreadNow (d := d + 168) ?_
  generalize uI (uI m 187 34 (0 : Int32)) 187 35 (0 : Int32) = ma at wa fa ⊢
  have ema := em.fx fa rfl
  have e1a : ma.1 187 1 = nI (nE v) := ema.1
  refine ⟨fun c => ?_, fun c => ⟨wa, fa, ?_⟩⟩
  · have hn0 : 0 < nE v := Nat.pos_of_ne_zero (fun z => c (by rw [e1a, z]; rfl))
    have ea : sprA v g = pwG v g (bsF (pwG v g) (nE v)) - pwG v g (wkF (pwG v g) (nE v)) := if_neg (by omega)
    have L : ∀ (j k : Nat) (m1 : Wm), k + j = nE v → WT m1 → Fx (RS [22, 28, 33]) m m1 → AW ad E0 μX12_spreadNow (d + 169) (fun r m' => WT m' ∧ Fx (RS [22, 28, 33]) m m' ∧ r = some (.int (sprA v g))) 29 [(0, .ref (ad 187)), (1, .int (pwG v g (bsF (pwG v g) k))), (2, .int (pwG v g (wkF (pwG v g) k))), (3, .int (nI k))] [] m1 := by
      intro j
      induction j with
      | zero =>
        intro k m1 hk w1 f1
        have e1 : m1.1 187 1 = nI (nE v) := (em.fx f1 rfl).1
        obtain rfl : k = nE v := hk
        exact g_X12_spreadNow_29 (d := d + 168) ⟨fun _ => ⟨w1, f1, by rw [ea]⟩, fun z => absurd (by rw [e1]; exact (nI_leI (a := nE v) (b := nE v) (by omega) (by omega)).mpr (Nat.le_refl _)) z⟩
      | succ j ih =>
        intro k m1 hk w1 f1
        have em1 := em.fx f1 rfl
        have e1 : m1.1 187 1 = nI (nE v) := em1.1
        refine g_X12_spreadNow_29 (d := d + 168) ⟨fun z => absurd (by rw [e1] at z; exact (nI_leI (a := nE v) (b := k) (by omega) (by omega)).mp z) (by omega), fun _ => (powerM (d := d) w1 (hm.fx f1 rfl rfl) em1 (s := k) (by omega)).to ?_⟩
        rintro _ m2 ⟨w2, f2, rfl⟩
        have F2 := f1.tr f2 (RS_sub (l2 := [22, 28, 33]) rfl)
        have T : ∀ (m3 : Wm), WT m3 → Fx (RS [22, 28, 33]) m m3 → AW ad E0 μX12_spreadNow (d + 169) (fun r m' => WT m' ∧ Fx (RS [22, 28, 33]) m m' ∧ r = some (.int (sprA v g))) 58 [(0, .ref (ad 187)), (1, .int (pwG v g (bsF (pwG v g) (k + 1)))), (2, .int (pwG v g (wkF (pwG v g) k))), (3, .int (nI k)), (4, .int (pwG v g k))] [] m3 := fun m3 w3 f3 => by
          refine g_X12_spreadNow_58 (d := d + 168) ⟨fun q => ?_, fun q => ?_⟩
          · have := ih (k + 1) m3 (by omega) w3 f3
            rw [wkF_p q] at this
            rw [nI_1]
            exact this
          · have := ih (k + 1) (uI m3 187 35 (nI k)) (by omega) (w3.n rfl) (f3.i rfl)
            rw [wkF_n q] at this
            rw [nI_1]
            exact this
        refine ⟨_, rfl, fun q => ?_, fun q => ?_⟩
        · have := T m2 w2 F2
          rw [bsF_p q] at this
          exact this
        · have := T (uI m2 187 34 (nI k)) (w2.n rfl) (F2.i rfl)
          rw [bsF_n q] at this
          exact this
    refine (powerM (d := d) wa (hm.fx fa rfl rfl) ema (s := 0) hn0).to ?_
    rintro _ m2 ⟨w2, f2, rfl⟩
    have := L (nE v - 1) 1 m2 (by omega) w2 (fa.tr f2 (RS_sub rfl))
    rw [bsF_1, wkF_1] at this
    exact ⟨_, rfl, this⟩
  · have hn0 : nE v = 0 := (nI_eq (a := nE v) (b := 0) (by omega) (by omega)).mp (e1a.symm.trans c)
    unfold sprA
    rw [if_pos hn0]
end SPN
/-! THE SEARCH OF THE MODEL -/
/-- states as they lie in the model -/
def SM (m : Wm) (S : SSt) : Prop := TBM m (nS S) ∧ (∀ i, i < nS S → m.2.1 205 i = lN (mkN (kS S i) 0 16) ∧ m.2.1 206 i = lN (mkN (kS S i) 16 16) ∧ SR7 (kS S i)) ∧ ∀ i, i < nS S → m.1 207 i = nI (dS S i) ∧ dS S i ≤ i
def MRL : List Nat := [22, 24, 28, 34, 35, 49]
/-- between two tries -/
def MTi (v : EV) (g : GS) (S : SSt) (m0 m : Wm) : Prop := WT m ∧ Fx (RS [22, 24, 28, 34, 35, 49]) m0 m ∧ ST m ∧ SM m S ∧ HL (nE v) 204 0 m g ∧ EM m v ∧ (∃ f, HX (nE v) m (f, g.2)) ∧ ZI v S
def MN (v : EV) (g : GS) (m0 m : Wm) : Prop := WT m ∧ Fx (RS [22, 24, 28, 34, 35, 49]) m0 m ∧ HL (nE v) 204 0 m g ∧ EM m v
def MSq (v : EV) (g : GS) (T : Option SSt) (m0 : Wm) (r : Option Value) (m' : Wm) : Prop := WT m' ∧ Fx (RS [22, 24, 28, 34, 35, 49]) m0 m' ∧ HM (nE v) m' g ∧ HL (nE v) 204 0 m' g ∧ EM m' v ∧ ((∃ S, T = some S ∧ r = some (.int 1) ∧ SM m' S ∧ ST m' ∧ ZI v S) ∨ (T = none ∧ r = some (.int 0)))
section SMS
variable {ad : Nat → Nat} {d t a w b : Nat} {m m' m0 : Wm} {g : GS} {v : EV} {S : SSt} {R : List Nat} {f : Nat → Int32} {x1 x2 : Int32} {T : Option SSt}
theorem SM.fx (h : SM m S) (F : Fx (RS R) m m') (e : R.elem 35 = false) : SM m' S := by
  obtain ⟨h1, h2, h3⟩ := h
  refine ⟨h1.fx F e, fun i hi => ?_, fun i hi => ⟨(F.at (nRS (ρ := 35) e rfl)).trans (h3 i hi).1, (h3 i hi).2⟩⟩
  rw [(fx_cl (a := 205) (ρ := 35) F (fun _ => rfl) e).2, (fx_cl (a := 206) (ρ := 35) F (fun _ => rfl) e).2]
  exact h2 i hi
theorem SM.n (h : SM m S) : nS S ≤ 3000 := h.1.2.1
theorem SM.c43 (h : SM m S) : m.1 187 43 = nI (nS S) := h.1.1
theorem stateNowS {q : Nat} (w0 : WT m) (s : ST m) (h : SM m S) (hf : ∀ k, k < 32 → m.1 188 k = f k) (h7 : SR7 f) (hq : (x1 = -1 ∧ q = 0) ∨ ∃ t, t < nS S ∧ x1 = nI t ∧ q = dS S t + 1) : Ct ad μX12_stateNow (d + 1) [.ref (ad 187), .int x1, .int x2, .int 3000] m (fun r m' => WT m' ∧ Fx (RS [35]) m m' ∧ ST m' ∧
    ((∃ i, i < nS S ∧ EQ32 (kS S i) f ∧ r = some (.int (nI i)) ∧ SM m' S) ∨ (¬ InS S f ∧ ¬ nS S < 3000 ∧ r = some (.int (-1)) ∧ SM m' S) ∨ (¬ InS S f ∧ nS S < 3000 ∧ r = some (.int (nI (nS S))) ∧ SM m' (adS f q S)))) := by
  have hN := h.n
  have hx : x1 = -1 ∨ ∃ p, p < nS S ∧ x1 = nI p := hq.imp (fun z => z.1) (fun ⟨t, h1, h2, _⟩ => ⟨t, h1, h2⟩)
  refine (stateNowX (d := d) w0 s h.1 hf h7 hx).to ?_
  rintro r m' ⟨w1, F, s1, hk, qq⟩
  have nin : (∀ i, i < nS S → ¬ (m.2.1 205 i = lN (mkN f 0 16) ∧ m.2.1 206 i = lN (mkN f 16 16))) → ¬ InS S f := fun q ⟨i, hi, e⟩ => by
    obtain ⟨a1, a2, a3⟩ := h.2.1 i hi
    obtain ⟨e1, e2⟩ := mk_e32 e
    exact q i hi ⟨by rw [a1, e1], by rw [a2, e2]⟩
  have old : TBM m' (nS S) → SM m' S := fun t => ⟨t, fun i hi => by rw [(hk i hi).1, (hk i hi).2.1]; exact h.2.1 i hi, fun i hi => by rw [(hk i hi).2.2]; exact h.2.2 i hi⟩
  refine ⟨w1, F, s1, ?_⟩
  rcases qq with ⟨i, hi, q1, q2, rfl, q3⟩ | ⟨q1, q2, rfl, q3⟩ | ⟨q1, q2, rfl, q3, q4, q5, q6, q7⟩
  · obtain ⟨a1, a2, a3⟩ := h.2.1 i hi
    rw [a1] at q1
    rw [a2] at q2
    exact Or.inl ⟨i, hi, mk_inj a3 h7 (lN_inj (mk_48 a3 (by decide)) (mk_48 h7 (by decide)) q1) (lN_inj (mk_48 a3 (by decide)) (mk_48 h7 (by decide)) q2), rfl, old q3⟩
  · exact Or.inr (Or.inl ⟨nin q1, by omega, rfl, old q3⟩)
  · refine Or.inr (Or.inr ⟨nin q1, q2, rfl, q3, fun i hi => ?_, fun i hi => ?_⟩)
    · rw [adS_n] at hi
      by_cases c : i = nS S
      · subst c
        rw [adS_kn]
        exact ⟨q4, q5, h7⟩
      · rw [adS_k (by omega), (hk i (by omega)).1, (hk i (by omega)).2.1]
        exact h.2.1 i (by omega)
    · rw [adS_n] at hi
      by_cases c : i = nS S
      · subst c
        rw [adS_dn]
        rcases hq with ⟨z1, z2⟩ | ⟨t, z1, z2, z3⟩
        · rw [q6 z1, z2]
          exact ⟨rfl, Nat.zero_le _⟩
        · obtain ⟨y1, y2⟩ := h.2.2 t z1
          rw [q7 t z1 z2, y1, z3, nI_1]
          exact ⟨rfl, by omega⟩
      · rw [adS_d (by omega), (hk i (by omega)).2.2]
        exact h.2.2 i (by omega)
/-- all places emptied, what is behind the last side 0, what stood laid aside -/
theorem clearX (w0 : WT m) (hm : HM (nE v) m g) (hE : EM m v) (hz : ∀ k, 4 * nE v ≤ k → k < 32 → g.1 k = 0) : Ct ad μX12_clearStates (d + 1) [.ref (ad 187)] m (fun r m' => r = none ∧ WT m' ∧ Fx (RS [24, 34, 35]) m m' ∧ ST m' ∧ TBM m' 0 ∧ HX (nE v) m' g ∧ HL (nE v) 204 0 m' g) := by
  have z0 : (0 : Int32).toInt = 0 := rfl
  have hs8 := hE.2.2.1
  have hs := hE.1
  generalize nE v = sd at hm hs8 hs hz ⊢
  have L2 : ∀ n x (m1 : Wm), x + n = 32 → 4 * sd ≤ x → WT m1 → Fx (RS [24, 34, 35]) m m1 → ST m1 → TBM m1 0 → HM sd m1 g → (∀ k, 4 * sd ≤ k → k < x → m1.1 188 k = 0) → AW ad E0 μX12_clearStates (d + 1) (fun r m' => r = none ∧ WT m' ∧ Fx (RS [24, 34, 35]) m m' ∧ ST m' ∧ TBM m' 0 ∧ HX sd m' g ∧ HL sd 204 0 m' g) 34 [(0, .ref (ad 187)), (1, .int (nI x))] [] m1 := by
    intro n
    induction n with
    | zero =>
      intro x m1 hx hxs w1 f1 s1 e1 hm1 k1
      obtain rfl : x = 32 := by omega
      refine g_X12_clearStates_34 ⟨fun _ => (layH (x := 0) (na := 57) (reg := 34) rfl (by decide) (by decide) (fun _ => rfl) (fun _ => rfl) w1 hm1 hs8 (by decide)).to ?_, fun c => absurd (by decide) c⟩
      rintro _ m2 ⟨rfl, w2, f2, hq, -, -⟩
      have hm2 := hm1.fx f2 rfl rfl
      refine ⟨rfl, rfl, w2, f1.tr f2 (RS_sub rfl), s1.fx f2 rfl, e1.fx f2 rfl, ⟨fun k hk => ?_, hm2.2⟩, hq⟩
      by_cases c : k < 4 * sd
      · exact hm2.1 k c
      · rw [f2.at (a := 188) (k := k) (nRS (ρ := 24) rfl rfl), k1 k (by omega) hk, hz k (by omega) hk]
    | succ n ih =>
      intro x m1 hx hxs w1 f1 s1 e1 hm1 k1
      refine g_X12_clearStates_34 ⟨fun c => absurd ((le_l 32 32 rfl (by omega) (by omega)).mp c) (by omega), fun _ => ⟨nat_in (by omega) (by decide), ?_⟩⟩
      rw [nI_1]
      rw [nI_clamp (by omega)]
      have F : Fx (RS [24]) m1 (uI m1 188 x 0) := Fx.i Fx.rf rfl
      refine ih (x + 1) _ (by omega) (by omega) (w1.n rfl) (f1.i rfl) (s1.fx F rfl) (e1.fx F rfl) (hm1.z hxs) (fun k h1 h2 => ?_)
      by_cases c : k = x
      · subst c
        exact u_eq
      · exact (u_ne (fun q => c q.2)).trans (k1 k h1 (by omega))
  have L1 : ∀ n x (m1 : Wm), x + n = 8192 → WT m1 → Fx (RS [24, 34, 35]) m m1 → (∀ k, k < x → m1.1 210 k = 0) → HM sd m1 g → AW ad E0 μX12_clearStates (d + 1) (fun r m' => r = none ∧ WT m' ∧ Fx (RS [24, 34, 35]) m m' ∧ ST m' ∧ TBM m' 0 ∧ HX sd m' g ∧ HL sd 204 0 m' g) 2 [(0, .ref (ad 187)), (1, .int (nI x))] [] m1 := by
    intro n
    induction n with
    | zero =>
      intro x m1 hx w1 f1 h hm1
      obtain rfl : x = 8192 := by omega
      refine g_X12_clearStates_2 ⟨fun _ => ?_, fun c => absurd (by decide) c⟩
      have es : m1.1 187 1 = nI sd := (f1.at (nRS (ρ := 23) rfl rfl)).trans hs
      show AW ad E0 μX12_clearStates (d + 1) _ 34 [(0, .ref (ad 187)), (1, .int ((4 : Int32) * (m1.1 187 1)))] [] (uI m1 187 43 0)
      rw [es, l_mul 4 4 rfl]
      refine L2 (32 - 4 * sd) _ _ (by omega) (Nat.le_refl _) (w1.t rfl (by decide) (by decide)) (f1.i rfl) ⟨?_, fun k hk => ?_, fun k hk => absurd (show (k : Int) < 0 from hk) (by omega)⟩ ⟨rfl, TB.nil (fun k hk => h k hk)⟩ hm1 (fun k h1 h2 => absurd h2 (by omega))
      · show ((czf (m1.1 210) 8192 : Nat) : Int) ≤ 0
        rw [czf_zero 8192 h]
        decide
      · show (m1.1 210 k).toInt ≤ 0
        rw [h k hk]
        decide
    | succ n ih =>
      intro x m1 hx w1 f1 h hm1
      refine g_X12_clearStates_2 ⟨fun c => absurd ((le_l 8192 8192 rfl (by omega) (by omega)).mp c) (by omega), fun _ => ⟨nat_in (by omega) (by decide), ?_⟩⟩
      rw [nI_1]
      refine ih (x + 1) _ (by omega) (w1.t rfl (by decide) (by decide)) (f1.i rfl) (fun k hk => ?_) hm1
      show (if 210 = 210 ∧ k = (nI x).toNatClampNeg then (0 : Int32) else m1.1 210 k) = 0
      rw [nI_clamp (by omega)]
      by_cases hkx : k = x
      · rw [if_pos ⟨rfl, hkx⟩]
      · rw [if_neg (fun q => hkx q.2)]
        exact h k (by omega)
  exact v_X12_clearStates (L1 8192 0 m rfl w0 Fx.rf (fun k hk => absurd hk (by omega)) hm)
theorem MTi.n (h : MTi v g S m0 m) : MN v g m0 m := ⟨h.1, h.2.1, h.2.2.2.2.1, h.2.2.2.2.2.1⟩
theorem MTi.e8 (h : MTi v g S m0 m) : nE v ≤ 8 := h.2.2.2.2.2.1.2.2.1
/-! no room left: all loops to their ends -/
theorem mf_154 (h : MN v g m0 m) (hT : T = none) : AW ad E0 μX12_findStates (d + 177) (MSq v g T m0) 154 [(0, .ref (ad 187)), (2, .int 0)] [] m := by
  obtain ⟨w1, f1, hq, e1⟩ := h
  refine g_X12_findStates_154 (d := d + 176) ((bringH (x := 0) (na := 57) rfl (by decide) (by decide) w1 hq (by decide)).to ?_)
  rintro _ m2 ⟨rfl, w2, f2, H2⟩
  exact ⟨rfl, Or.inl rfl, w2, f1.tr f2 (RS_sub rfl), H2, hq.fx f2 (fun _ => rfl) rfl, e1.fx f2 rfl, Or.inr ⟨hT, rfl⟩⟩
theorem mf_18 {x3 : Int32} (h : MN v g m0 m) (hT : T = none) : AW ad E0 μX12_findStates (d + 177) (MSq v g T m0) 18 [(0, .ref (ad 187)), (1, .int x1), (2, .int 0), (3, .int x3)] [] m := g_X12_findStates_18 (d := d + 176) ⟨fun _ => mf_154 h hT, fun _ => ⟨fun _ => mf_154 h hT, fun c => absurd rfl c⟩⟩
theorem mf_46 {x3 : Int32} (h : MN v g m0 m) (hT : T = none) : ∀ n w, w + n = 3 → AW ad E0 μX12_findStates (d + 177) (MSq v g T m0) 46 [(0, .ref (ad 187)), (1, .int x1), (2, .int 0), (3, .int x3), (4, .int (nI w))] [] m := by
  have n8 := h.2.2.2.2.2.1
  have e1 := h.2.2.2.1
  intro n
  induction n with
  | zero =>
    intro w hw
    obtain rfl : w = 3 := hw
    exact g_X12_findStates_46 (d := d + 176) ⟨fun _ => mf_18 h hT, fun c => absurd (by decide) c⟩
  | succ n ih =>
    intro w hw
    have L : ∀ j a, a + j = nE v → AW ad E0 μX12_findStates (d + 177) (MSq v g T m0) 55 [(0, .ref (ad 187)), (1, .int x1), (2, .int 0), (3, .int x3), (4, .int (nI w)), (5, .int (nI a))] [] m := by
      intro j
      induction j with
      | zero =>
        intro a ha
        obtain rfl : a = nE v := ha
        refine g_X12_findStates_55 (d := d + 176) ⟨fun _ => ?_, fun c => absurd (by rw [e1]; exact (nI_leI (by omega) (by omega)).mpr (Nat.le_refl _)) c⟩
        rw [nI_1]
        exact ih (w + 1) (by omega)
      | succ j ihj =>
        intro a ha
        refine g_X12_findStates_55 (d := d + 176) ⟨fun c => absurd (by rw [e1] at c; exact (nI_leI (by omega) (by omega)).mp c) (by omega), fun _ => ?_⟩
        refine g_X12_findStates_70 (d := d + 176) ⟨fun _ => ?_, fun _ => ⟨fun _ => ?_, fun c => absurd rfl c⟩⟩
        · rw [nI_1]
          exact ihj (a + 1) (by omega)
        · rw [nI_1]
          exact ihj (a + 1) (by omega)
    exact g_X12_findStates_46 (d := d + 176) ⟨fun c => absurd ((le_l 3 3 rfl (by decide) (by omega)).mp c) (by omega), fun _ => L (nE v) 0 (by omega)⟩
theorem mf_55 {x3 : Int32} (h : MN v g m0 m) (hT : T = none) {w : Nat} (hw : w ≤ 2) : ∀ j a, a + j = nE v → AW ad E0 μX12_findStates (d + 177) (MSq v g T m0) 55 [(0, .ref (ad 187)), (1, .int x1), (2, .int 0), (3, .int x3), (4, .int (nI w)), (5, .int (nI a))] [] m := by
  have n8 := h.2.2.2.2.2.1
  have e1 := h.2.2.2.1
  intro j
  induction j with
  | zero =>
    intro a ha
    obtain rfl : a = nE v := ha
    refine g_X12_findStates_55 (d := d + 176) ⟨fun _ => ?_, fun c => absurd (by rw [e1]; exact (nI_leI (by omega) (by omega)).mpr (Nat.le_refl _)) c⟩
    rw [nI_1]
    exact mf_46 (d := d) h hT (3 - (w + 1)) (w + 1) (by omega)
  | succ j ihj =>
    intro a ha
    refine g_X12_findStates_55 (d := d + 176) ⟨fun c => absurd (by rw [e1] at c; exact (nI_leI (by omega) (by omega)).mp c) (by omega), fun _ => ?_⟩
    refine g_X12_findStates_70 (d := d + 176) ⟨fun _ => ?_, fun _ => ⟨fun _ => ?_, fun c => absurd rfl c⟩⟩
    · rw [nI_1]
      exact ihj (a + 1) (by omega)
    · rw [nI_1]
      exact ihj (a + 1) (by omega)
theorem mf_70 {x3 x6 : Int32} (h : MN v g m0 m) (hT : T = none) {w a : Nat} (hw : w ≤ 2) (ha : a < nE v) : AW ad E0 μX12_findStates (d + 177) (MSq v g T m0) 70 [(0, .ref (ad 187)), (1, .int x1), (2, .int 0), (3, .int x3), (4, .int (nI w)), (5, .int (nI a)), (6, .int x6)] [] m := by
  refine g_X12_findStates_70 (d := d + 176) ⟨fun _ => ?_, fun _ => ⟨fun _ => ?_, fun c => absurd rfl c⟩⟩
  · rw [nI_1]
    exact mf_55 (d := d) h hT hw (nE v - (a + 1)) (a + 1) (by omega)
  · rw [nI_1]
    exact mf_55 (d := d) h hT hw (nE v - (a + 1)) (a + 1) (by omega)
/-! the games of a state -/
theorem mx_70 {R : SSt → Option SSt} (hw : w ≤ 2) (ha : a < nE v)
    (K : ∀ S1 m1, MTi v g S1 m0 m1 → t < nS S1 → R S1 = T → AW ad E0 μX12_findStates (d + 177) (MSq v g T m0) 55 [(0, .ref (ad 187)), (1, .int x1), (2, .int 1), (3, .int (nI t)), (4, .int (nI w)), (5, .int (nI (a + 1)))] [] m1) :
    ∀ (k b : Nat) (S : SSt) (m1 : Wm), a < b → b + k = nE v → (xB v g.2 t w a k b S).bind R = T → MTi v g S m0 m1 → t < nS S → AW ad E0 μX12_findStates (d + 177) (MSq v g T m0) 70 [(0, .ref (ad 187)), (1, .int x1), (2, .int 1), (3, .int (nI t)), (4, .int (nI w)), (5, .int (nI a)), (6, .int (nI b))] [] m1 := by
  intro k
  induction k with
  | zero =>
    intro b S m1 hab hk hT h ht
    obtain rfl : b = nE v := hk
    have n8 := h.e8
    have e1 := h.2.2.2.2.2.1.1
    refine g_X12_findStates_70 (d := d + 176) ⟨fun _ => ?_, fun c => absurd (by rw [e1]; exact (nI_leI (by omega) (by omega)).mpr (Nat.le_refl _)) c⟩
    rw [nI_1]
    exact K S m1 h ht hT
  | succ k ih =>
    intro b S m1 hab hk hT h ht
    have n8 := h.e8
    obtain ⟨w1, f1, s1, sm, hl, em, ⟨f0, hx⟩, zi⟩ := h
    have e1 := em.1
    have hN := sm.n
    have hT' : ((xS v g.2 t w a b S).bind (xB v g.2 t w a k (b + 1))).bind R = T := hT
    refine g_X12_findStates_70 (d := d + 176) ⟨fun c => absurd (by rw [e1] at c; exact (nI_leI (by omega) (by omega)).mp c) (by omega), fun _ => ⟨fun c => absurd c (by decide), fun _ => ?_⟩⟩
    obtain ⟨a1, a2, a3⟩ := sm.2.1 t ht
    refine (loadM (d := d + 176) w1 a1 a2 a3 (by omega)).to ?_
    rintro _ m2 ⟨rfl, w2, f2, o2, c2⟩
    have hx2 : HX (nE v) m2 (kS S t, g.2) := ⟨c2, fun k hk => (o2 190 k (by decide)).trans (hx.2.1 k hk), fun k hk => (o2 191 k (by decide)).trans (hx.2.2.1 k hk), fun k hk => (o2 192 k (by decide)).trans (hx.2.2.2.1 k hk), (o2 187 8 (by decide)).trans hx.2.2.2.2⟩
    have hl2 := hl.fx f2 (fun _ => rfl) rfl
    have em2 := em.fx f2 rfl
    have tw : nI w = 0 ∨ nI w = 1 ∨ nI w = 2 ∨ nI w = 3 := th_of hw
    refine ⟨rfl, (goQuietX (d := d + 6) (g0 := g) w2 hx2 em2 hl2 rfl (a := a) (e := b) (by omega) (by omega) (by omega) tw).to ?_⟩
    rintro _ m3 ⟨rfl, w3, f3, hx3⟩
    have zb : ZB v (qtG v a b (nI w) (kS S t, g.2)) := (zi t ht g.2).qt (by omega) (by omega) em.2.2.2.1
    have G2 : (qtG v a b (nI w) (kS S t, g.2)).2 = g.2 := stl_f2
    have sm3 := (sm.fx f2 rfl).fx f3 rfl
    have s3 := (s1.fx f2 rfl).fx f3 rfl
    have hl3 := hl2.fx f3 (fun _ => rfl) rfl
    have em3 := em2.fx f3 rfl
    have F3 : Fx (RS [22, 24, 28, 34, 35, 49]) m0 m3 := (f1.tr f2 (RS_sub rfl)).tr f3 (RS_sub rfl)
    have hx3' : HX (nE v) m3 ((qtG v a b (nI w) (kS S t, g.2)).1, g.2) := by
      obtain ⟨y1, y2⟩ := hx3
      rw [G2] at y2
      exact ⟨y1, y2⟩
    refine ⟨rfl, (stateNowS (d := d + 175) (q := dS S t + 1) w3 s3 sm3 hx3.1 zb.1.2 (Or.inr ⟨t, ht, rfl, rfl⟩)).to ?_⟩
    rintro r m4 ⟨w4, f4, s4, q⟩
    have F4 := F3.tr f4 (RS_sub (l2 := [22, 24, 28, 34, 35, 49]) rfl)
    have hl4 := hl3.fx f4 (fun _ => rfl) rfl
    have em4 := em3.fx f4 rfl
    have hx4 := hx3'.fx f4 rfl rfl
    have hxs : xS v g.2 t w a b S = insS (qtG v a b (nI w) (kS S t, g.2)).1 (dS S t + 1) S := rfl
    have nn : ∀ i, i ≤ 3000 → ¬ nI i = (-1 : Int32) := fun i hi q => by
      have := congrArg Int32.toInt q
      rw [nI_toInt (by omega)] at this
      have z1 : (-1 : Int32).toInt = -1 := rfl
      omega
    rcases q with ⟨i, hi, ei, rfl, sm4⟩ | ⟨ni, n3, rfl, sm4⟩ | ⟨ni, n3, rfl, sm4⟩
    · rw [hxs, insS_in ⟨i, hi, ei⟩] at hT'
      refine ⟨_, rfl, fun c => absurd c (nn i (by omega)), fun _ => ?_⟩
      rw [nI_1]
      exact ih (b + 1) S m4 (by omega) (by omega) hT' ⟨w4, F4, s4, sm4, hl4, em4, ⟨_, hx4⟩, zi⟩ ht
    · rw [hxs, insS_no ni n3] at hT'
      exact ⟨_, rfl, fun _ => mf_70 (d := d) ⟨w4, F4, hl4, em4⟩ hT'.symm hw ha, fun c => absurd rfl c⟩
    · have e := insS_new (q := dS S t + 1) ni n3
      rw [hxs, e] at hT'
      refine ⟨_, rfl, fun c => absurd c (nn _ (by omega)), fun _ => ?_⟩
      rw [nI_1]
      exact ih (b + 1) _ m4 (by omega) (by omega) hT' ⟨w4, F4, s4, sm4, hl4, em4, ⟨_, hx4⟩, zi.ins (fun p' => zb.of rfl) e⟩ (by rw [adS_n]; omega)
theorem mx_55 {R : SSt → Option SSt} (hw : w ≤ 2)
    (K : ∀ S1 m1, MTi v g S1 m0 m1 → t < nS S1 → R S1 = T → AW ad E0 μX12_findStates (d + 177) (MSq v g T m0) 46 [(0, .ref (ad 187)), (1, .int x1), (2, .int 1), (3, .int (nI t)), (4, .int (nI (w + 1)))] [] m1) :
    ∀ (k a : Nat) (S : SSt) (m1 : Wm), a + k = nE v → (xA v g.2 t w (nE v) k a S).bind R = T → MTi v g S m0 m1 → t < nS S → AW ad E0 μX12_findStates (d + 177) (MSq v g T m0) 55 [(0, .ref (ad 187)), (1, .int x1), (2, .int 1), (3, .int (nI t)), (4, .int (nI w)), (5, .int (nI a))] [] m1 := by
  intro k
  induction k with
  | zero =>
    intro a S m1 hk hT h ht
    obtain rfl : a = nE v := hk
    have n8 := h.e8
    have e1 := h.2.2.2.2.2.1.1
    refine g_X12_findStates_55 (d := d + 176) ⟨fun _ => ?_, fun c => absurd (by rw [e1]; exact (nI_leI (by omega) (by omega)).mpr (Nat.le_refl _)) c⟩
    rw [nI_1]
    exact K S m1 h ht hT
  | succ k ih =>
    intro a S m1 hk hT h ht
    have n8 := h.e8
    have e1 := h.2.2.2.2.2.1.1
    have hT' : ((xB v g.2 t w a (nE v - (a + 1)) (a + 1) S).bind (xA v g.2 t w (nE v) k (a + 1))).bind R = T := hT
    rw [Option.bind_assoc] at hT'
    refine g_X12_findStates_55 (d := d + 176) ⟨fun c => absurd (by rw [e1] at c; exact (nI_leI (by omega) (by omega)).mp c) (by omega), fun _ => ?_⟩
    rw [nI_1]
    exact mx_70 (d := d) hw (by omega) (fun S1 m2 h2 ht2 hR => ih (a + 1) S1 m2 (by omega) hR h2 ht2) (nE v - (a + 1)) (a + 1) S m1 (by omega) (by omega) hT' h ht
theorem mx_46 {R : SSt → Option SSt} (K : ∀ S1 m1, MTi v g S1 m0 m1 → t < nS S1 → R S1 = T → AW ad E0 μX12_findStates (d + 177) (MSq v g T m0) 18 [(0, .ref (ad 187)), (1, .int x1), (2, .int 1), (3, .int (nI (t + 1)))] [] m1) :
    ∀ (k w : Nat) (S : SSt) (m1 : Wm), w + k = 3 → (xW v g.2 t (nE v) k w S).bind R = T → MTi v g S m0 m1 → t < nS S → AW ad E0 μX12_findStates (d + 177) (MSq v g T m0) 46 [(0, .ref (ad 187)), (1, .int x1), (2, .int 1), (3, .int (nI t)), (4, .int (nI w))] [] m1 := by
  intro k
  induction k with
  | zero =>
    intro w S m1 hk hT h ht
    obtain rfl : w = 3 := hk
    refine g_X12_findStates_46 (d := d + 176) ⟨fun _ => ?_, fun c => absurd (by decide) c⟩
    rw [nI_1]
    exact K S m1 h ht hT
  | succ k ih =>
    intro w S m1 hk hT h ht
    have hT' : ((xA v g.2 t w (nE v) (nE v) 0 S).bind (xW v g.2 t (nE v) k (w + 1))).bind R = T := hT
    rw [Option.bind_assoc] at hT'
    exact g_X12_findStates_46 (d := d + 176) ⟨fun c => absurd ((le_l 3 3 rfl (by decide) (by omega)).mp c) (by omega), fun _ => mx_55 (d := d) (by omega) (fun S1 m2 h2 ht2 hR => ih (w + 1) S1 m2 (by omega) hR h2 ht2) (nE v) 0 S m1 (by omega) hT' h ht⟩
theorem mx_18 {wi : Nat} (hwi : wi ≤ 3000) : ∀ (k t : Nat) (S : SSt) (m1 : Wm), t + k = 3000 → xM v g.2 wi k t S = T → MTi v g S m0 m1 → AW ad E0 μX12_findStates (d + 177) (MSq v g T m0) 18 [(0, .ref (ad 187)), (1, .int (nI wi)), (2, .int 1), (3, .int (nI t))] [] m1 := by
  have fin : ∀ (S : SSt) (m1 : Wm), T = some S → MTi v g S m0 m1 → AW ad E0 μX12_findStates (d + 177) (MSq v g T m0) 154 [(0, .ref (ad 187)), (2, .int 1)] [] m1 := by
    intro S m1 hT h
    obtain ⟨w1, f1, s1, sm, hl, em, hx, zi⟩ := h
    refine g_X12_findStates_154 (d := d + 176) ((bringH (x := 0) (na := 57) rfl (by decide) (by decide) w1 hl (by decide)).to ?_)
    rintro _ m2 ⟨rfl, w2, f2, H2⟩
    exact ⟨rfl, Or.inr rfl, w2, f1.tr f2 (RS_sub rfl), H2, hl.fx f2 (fun _ => rfl) rfl, em.fx f2 rfl, Or.inl ⟨S, hT, rfl, sm.fx f2 rfl, s1.fx f2 rfl, zi⟩⟩
  intro k
  induction k with
  | zero =>
    intro t S m1 hk hT h
    obtain rfl : t = 3000 := hk
    have hN := h.2.2.2.1.n
    have c4 := h.2.2.2.1.c43
    exact g_X12_findStates_18 (d := d + 176) ⟨fun _ => fin S m1 hT.symm h, fun c => absurd (by rw [c4]; exact (l_le 3000 3000 rfl (by decide) (by omega)).mpr hN) c⟩
  | succ k ih =>
    intro t S m1 hk hT h
    have hN := h.2.2.2.1.n
    have c4 := h.2.2.2.1.c43
    have hT' : (if nS S ≤ t then some S else if dS S t = wi then xM v g.2 wi k (t + 1) S else (xW v g.2 t (nE v) 3 0 S).bind (xM v g.2 wi k (t + 1))) = T := hT
    refine g_X12_findStates_18 (d := d + 176) ⟨fun c => ?_, fun c => ⟨fun c2 => absurd c2 (by decide), fun _ => ?_⟩⟩
    · rw [c4] at c
      rw [if_pos ((nI_leI (by omega) (by omega)).mp c)] at hT'
      exact fin S m1 hT'.symm h
    · rw [c4] at c
      have ht : t < nS S := Nat.lt_of_not_le (fun z => c ((nI_leI (by omega) (by omega)).mpr z))
      obtain ⟨e7, dl⟩ := h.2.2.2.1.2.2 t ht
      rw [if_neg (by omega)] at hT'
      rw [nI_clamp (by omega), e7]
      refine ⟨nat_in (by omega) (by decide), fun c2 => ?_, fun c2 => ?_⟩
      · have hd : ¬ dS S t = wi := fun z => c2 (by rw [z])
        rw [if_neg hd] at hT'
        exact mx_46 (d := d) (fun S1 m2 h2 ht2 hR => ih (t + 1) S1 m2 (by omega) hR h2) 3 0 S m1 rfl hT' h ht
      · have hd := (nI_eq (a := dS S t) (b := wi) (by omega) (by omega)).mp c2
        rw [if_pos hd] at hT'
        rw [nI_1]
        exact ih (t + 1) S m1 (by omega) hT' h
theorem findStatesX (w0 : WT m) (hm : HM (nE v) m g) (hE : EM m v) (hz : ZB v g) {wi : Nat} (hwi : wi ≤ 3000) : Ct ad μX12_findStates (d + 177) [.ref (ad 187), .int (nI wi)] m (MSq v g (srG v g wi) m) := by
  refine v_X12_findStates (d := d + 176) ((clearX (d := d + 175) w0 hm hE hz.1.1).to ?_)
  rintro _ m1 ⟨rfl, w1, f1, s1, t1, hx1, hl1⟩
  have em1 := hE.fx f1 rfl
  have sm1 : SM m1 (0, (fun _ => g.1), fun _ => 0) := ⟨t1, fun i hi => absurd hi (Nat.not_lt_zero i), fun i hi => absurd hi (Nat.not_lt_zero i)⟩
  refine ⟨rfl, (stateNowS (d := d + 175) (q := 0) w1 s1 sm1 hx1.1 hz.1.2 (Or.inl ⟨rfl, rfl⟩)).to ?_⟩
  rintro r m2 ⟨w2, f2, s2, q⟩
  rcases q with ⟨i, hi, -⟩ | ⟨-, q, -⟩ | ⟨-, -, rfl, sm2⟩
  · exact absurd hi (Nat.not_lt_zero i)
  · exact absurd (show (0 : Nat) < 3000 by decide) q
  rw [s0S_e] at sm2
  refine ⟨_, rfl, ?_⟩
  rw [srG_M]
  refine mx_18 (d := d) hwi 3000 0 (s0S g.1) m2 rfl rfl ⟨w2, ((Fx.rf (S := RS [22, 24, 28, 34, 35, 49])).tr f1 (RS_sub rfl)).tr f2 (RS_sub rfl), s2, sm2, hl1.fx f2 (fun _ => rfl) rfl, em1.fx f2 rfl, ⟨g.1, hx1.fx f2 rfl rfl⟩, fun i hi p => hz.of rfl⟩
end SMS
end
