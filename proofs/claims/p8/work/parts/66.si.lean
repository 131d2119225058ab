section
/-! CALL: of, with its answers -/
def ofA (v : EV) (g : GS) (x y : Int32) : Option Int32 := if 0 ≤ x.toInt ∧ x.toInt < nE v then (if y = 0 then some (pwG v g x.toNatClampNeg) else if y = 1 then some (g.2.1 x.toNatClampNeg) else if y = 2 then some (g.2.2.1 x.toNatClampNeg) else if y = 3 then some (if iE v x.toNatClampNeg = true then 1 else 0) else if y = 4 then some (g.2.2.2.1 x.toNatClampNeg) else none) else none
section OFF
variable {ad : Nat → Nat} {d : Nat} {m : Wm} {g : GS} {v : EV} {x y : Int32}
theorem ofA_no (h : ¬ InN (nE v) x) : ofA v g x y = none := if_neg (ninN_of h)
theorem ofA_in {s : Nat} (h : InN (nE v) (nI s)) (hs : s < 8) : ofA v g (nI s) y = if y = 0 then some (pwG v g s) else if y = 1 then some (g.2.1 s) else if y = 2 then some (g.2.2.1 s) else if y = 3 then some (if iE v s = true then 1 else 0) else if y = 4 then some (g.2.2.2.1 s) else none := by
  unfold ofA
  rw [if_pos (inN_of h), nI_clamp (by omega)]
theorem e_ofM (w : WT m) (hm : HM (nE v) m g) (em : EM m v) : Ct ad μX12_of (d + 300) [.ref (ad 187), .int x, .int y] m (fun r m' => WT m' ∧ Fx (RS [20, 22, 28]) m m' ∧ ∃ u : Int32, r = some (.int u) ∧ (∀ z, ofA v g x y = some z → m'.1 187 17 = 0 ∧ u = z) ∧ (ofA v g x y = none → m'.1 187 17 = 1)) := by
  have n8 := em.2.2.1
  have w0 : WT (uI m 187 17 0) := w.n rfl
  have f0 : Fx (RS [20, 22, 28]) m (uI m 187 17 0) := Fx.rf.i rfl
  have hm0 : HM (nE v) (uI m 187 17 0) g := hm
  have em0 : EM (uI m 187 17 0) v := em
  have t0 : (uI m 187 17 0).1 187 17 = 0 := u_eq
  refine v_X12_of (d := d + 299) ?_
  generalize uI m 187 17 0 = m1 at w0 f0 hm0 em0 t0 ⊢
  have lost : ofA v g x y = none → Ct ad μX12_lost (d + 299) [.ref (ad 187)] m1 (fun r m3 => ∃ v4 : Int32, r = some (.int v4) ∧ (WT m3 ∧ Fx (RS [20, 22, 28]) m m3 ∧ ∃ u : Int32, some (.int v4) = some (Value.int u) ∧ (∀ z, ofA v g x y = some z → m3.1 187 17 = 0 ∧ u = z) ∧ (ofA v g x y = none → m3.1 187 17 = 1))) := fun e => v_X12_lost ⟨0, rfl, w0.n rfl, f0.i rfl, 0, rfl, fun z hz => absurd (e.symm.trans hz) (by intro q; cases q), fun _ => u_eq⟩
  have good : ∀ (z : Int32) (m3 : Wm), ofA v g x y = some z → WT m3 → Fx (RS [20, 22, 28]) m m3 → m3.1 187 17 = 0 → (WT m3 ∧ Fx (RS [20, 22, 28]) m m3 ∧ ∃ u : Int32, some (.int z) = some (Value.int u) ∧ (∀ z, ofA v g x y = some z → m3.1 187 17 = 0 ∧ u = z) ∧ (ofA v g x y = none → m3.1 187 17 = 1)) := fun z m3 e w3 f3 t3 => ⟨w3, f3, z, rfl, fun z2 h2 => ⟨t3, Option.some.inj (e.symm.trans h2)⟩, fun h2 => absurd (e.symm.trans h2) (by intro q; cases q)⟩
  refine (sideM (d := d + 298) (x := x) em0.1 n8).to ?_
  rintro _ m2 ⟨eq, v1, rfl, y1, y2⟩
  obtain rfl := eq.symm
  refine ⟨v1, rfl, fun c => lost (ofA_no (y1 c)), fun c => ?_⟩
  have hI := y2 c
  obtain ⟨s, hs, rfl⟩ := hI.of
  have e := ofA_in (g := g) (y := y) hI (by omega)
  have V : vp_in (nI s) 8 := nat_in (by omega) (by decide)
  refine (inM (lo := 0) (hi := 4) rfl rfl).to ?_
  rintro _ m2 ⟨eq, v2, rfl, b1, b2⟩
  obtain rfl := eq.symm
  have z0 : (0 : Int32).toInt = 0 := rfl
  have z1 : (1 : Int32).toInt = 1 := rfl
  have z2 : (2 : Int32).toInt = 2 := rfl
  have z3 : (3 : Int32).toInt = 3 := rfl
  have z4 : (4 : Int32).toInt = 4 := rfl
  refine ⟨v2, rfl, fun c2 => ⟨fun q0 => ⟨fun q1 => ⟨fun q2 => ⟨fun q3 => ⟨V, ?_⟩, fun q3 => ⟨V, fun q => ?_, fun q => ?_⟩⟩, fun q2 => ⟨V, ?_⟩⟩, fun q1 => ⟨V, ?_⟩⟩, fun q0 => (powerM (d := d + 131) w0 hm0 em0 hs).to ?_⟩, fun c2 => lost ?_⟩
  · have q4 : y = 4 := by
      have b := b2 c2
      have p0 : y.toInt ≠ 0 := fun z => q0 ((fa_eq _ _).mpr (by omega))
      have p1 : y.toInt ≠ 1 := fun z => q1 ((fa_eq _ _).mpr (by omega))
      have p2 : y.toInt ≠ 2 := fun z => q2 ((fa_eq _ _).mpr (by omega))
      have p3 : y.toInt ≠ 3 := fun z => q3 ((fa_eq _ _).mpr (by omega))
      exact (fa_eq _ _).mpr (by omega)
    rw [nI_clamp (by omega), hm0.2.2.2.1 s hs]
    exact good _ _ (by rw [e, if_neg q0, if_neg q1, if_neg q2, if_neg q3, if_pos q4]) w0 f0 t0
  · rw [nI_clamp (by omega), em0.2.2.2.2.2.1 s hs] at q
    refine good _ _ ?_ w0 f0 t0
    rw [e, if_neg q0, if_neg q1, if_neg q2, if_pos q3, q]
  · rw [nI_clamp (by omega), em0.2.2.2.2.2.1 s hs] at q
    refine good _ _ ?_ w0 f0 t0
    rw [e, if_neg q0, if_neg q1, if_neg q2, if_pos q3]
    by_cases c3 : iE v s = true
    · rw [if_pos c3]
    · rw [if_neg c3] at q
      exact absurd rfl q
  · rw [nI_clamp (by omega), hm0.2.2.1 s hs]
    exact good _ _ (by rw [e, if_neg q0, if_neg q1, if_pos q2]) w0 f0 t0
  · rw [nI_clamp (by omega), hm0.2.1 s hs]
    exact good _ _ (by rw [e, if_neg q0, if_pos q1]) w0 f0 t0
  · rintro _ m3 ⟨w3, f3, rfl⟩
    exact ⟨_, rfl, good _ _ (by rw [e, if_pos q0]) w3 (f0.tr f3 (RS_sub rfl)) ((f3.at (nRS (ρ := 20) rfl rfl)).trans t0)⟩
  · have p : ∀ k : Nat, k ≤ 4 → y ≠ nI k := fun k hk z => b1 c2 (by rw [z, nI_toInt (by omega)]; omega)
    have p0 : y ≠ 0 := p 0 (by omega)
    have p1 : y ≠ 1 := p 1 (by omega)
    have p2 : y ≠ 2 := p 2 (by omega)
    have p3 : y ≠ 3 := p 3 (by omega)
    have p4 : y ≠ 4 := p 4 (by omega)
    rw [e, if_neg p0, if_neg p1, if_neg p2, if_neg p3, if_neg p4]
/-- the model's half, behind what the class answered -/
theorem og_of {c : Nat} {H : List GS} {k : Int32} {m1 : Wm} (I1 : IV m) (kd : KGd m g v H) (kb : KB c m) (w1 : WT m1) (f1 : Fx (RS [14, 51]) m m1) (hk : (∃ z, ofA v g x y = some z ∧ k = 0 ∧ m1.2.1 217 (0 : Int32).toNatClampNeg = z.toInt64) ∨ (ofA v g x y = none ∧ k = 1)) : Ct ad μX12_of (d + 300) [.ref (ad 187), .int x, .int y] m1 (fun r m3 => ∃ u : Int32, r = some (.int u) ∧ m3.1 187 17 = k ∧ (k = 0 → m3.2.1 217 (0 : Int32).toNatClampNeg = u.toInt64) ∧ InvK (KX KG (c + 1)) m3) := by
  have kd1 := kd.fx f1 rfl
  refine (e_ofM (d := d) w1 kd1.2.1 kd1.2.2.2.1).to ?_
  rintro _ m3 ⟨w3, f3, u, rfl, s1, s2⟩
  have J : InvK (KX KG (c + 1)) m3 := ⟨w3, I1.f2 f1 f3 rfl rfl, ⟨g, v, H, kd1.fx f3 rfl⟩, KB.fd c f1 f3 kb rfl rfl⟩
  rcases hk with ⟨z, e, rfl, h3⟩ | ⟨e, rfl⟩
  · obtain ⟨p1, rfl⟩ := s1 z e
    exact ⟨_, rfl, p1, fun _ => (f3 217 _ (nRS (ρ := 51) rfl rfl)).2.1.trans h3, J⟩
  · exact ⟨u, rfl, s2 e, fun q => absurd q (by decide), J⟩
end OFF
/-! A GAME OF A SEARCH: by POINTS and RAISED as they are ahead of it, on both sides -/
def qtG (v : EV) (a b : Nat) (th : Int32) (g : GS) : GS := stlG false v a b (wnG v g a b th) g
section QTG
variable {v : EV} {a b f t : Nat} {x th : Int32} {g g' : GS} {cn cn' : Bool}
theorem tch_sk (h : g.1 = g'.1) : (tchG cn v f t g).1 = (tchG cn' v f t g').1 := by
  obtain ⟨g1, g2⟩ := g
  obtain ⟨k1, k2⟩ := g'
  dsimp only at h
  subst h
  unfold tchG gainG
  dsimp only
  by_cases c : artG g1 f t (aE v) = -1
  · rw [if_pos c, if_pos c]
  · rw [if_neg c, if_neg c]
theorem stl_sk (h : g.1 = g'.1) : (stlG cn v a b x g).1 = (stlG cn' v a b x g').1 := by
  have hp : (if cn = true then ptG a b x g else g).1 = (if cn' = true then ptG a b x g' else g').1 := by
    cases cn <;> cases cn' <;> exact h
  unfold stlG
  generalize (if cn = true then ptG a b x g else g) = p at hp
  generalize (if cn' = true then ptG a b x g' else g') = p' at hp
  by_cases c2 : x = 2
  · rw [if_pos c2, if_pos c2]
    exact hp
  · rw [if_neg c2, if_neg c2]
    generalize (if x = 0 then a else b) = wi
    generalize (if x = 0 then b else a) = lo
    have h1 : (stl1 cn v wi lo p).1 = (stl1 cn' v wi lo p').1 := by
      unfold stl1
      by_cases c : lE v 0 = 0 ∨ lE v 0 = 2
      · rw [if_pos c, if_pos c]
        exact tch_sk hp
      · rw [if_neg c, if_neg c]
        exact hp
    unfold stl2
    by_cases c : lE v 0 = 1 ∨ lE v 0 = 2
    · rw [if_pos c, if_pos c]
      exact tch_sk h1
    · rw [if_neg c, if_neg c]
      exact h1
theorem tch_lu : (tchG cn v f t g).2.2.2 = g.2.2.2 := by
  unfold tchG
  split <;> rfl
theorem tch_f2 : (tchG false v f t g).2 = g.2 := by
  unfold tchG
  split <;> rfl
theorem stl_lu : (stlG cn v a b x g).2.2.2.2 = g.2.2.2.2 := by
  have hp : (if cn = true then ptG a b x g else g).2.2.2.2 = g.2.2.2.2 := by cases cn <;> rfl
  unfold stlG
  generalize (if cn = true then ptG a b x g else g) = p at hp
  by_cases c2 : x = 2
  · rw [if_pos c2]
    exact hp
  · rw [if_neg c2]
    unfold stl2 stl1
    split
    · rw [tch_lu]
      split
      · rw [tch_lu]; exact hp
      · exact hp
    · split
      · rw [tch_lu]; exact hp
      · exact hp
theorem stl_f2 : (stlG false v a b x g).2 = g.2 := by
  unfold stlG
  rw [if_neg (show ¬ (false = true) by decide)]
  by_cases c2 : x = 2
  · rw [if_pos c2]
  · rw [if_neg c2]
    unfold stl2 stl1
    split
    · rw [tch_f2]
      split
      · rw [tch_f2]
      · rfl
    · split
      · rw [tch_f2]
      · rfl
theorem tch_at (ha : aE v ≤ 4) {k : Nat} (hf : k / 4 ≠ f) (ht : k / 4 ≠ t) : (tchG cn v f t g).1 k = g.1 k := by
  unfold tchG
  by_cases c : artG g.1 f t (aE v) = -1
  · rw [if_pos c]
  · rw [if_neg c]
    rcases artG_of (s := g.1) (f := f) (t := t) (n := aE v) with q | ⟨i, hi, q⟩
    · exact absurd q c
    · rw [q, nI_clamp (by omega)]
      exact (if_neg (by omega)).trans (if_neg (by omega))
theorem stl_at (ha : aE v ≤ 4) {k : Nat} (h1 : k / 4 ≠ a) (h2 : k / 4 ≠ b) : (stlG cn v a b x g).1 k = g.1 k := by
  have hp : (if cn = true then ptG a b x g else g).1 k = g.1 k := by cases cn <;> rfl
  unfold stlG
  generalize (if cn = true then ptG a b x g else g) = p at hp
  by_cases c2 : x = 2
  · rw [if_pos c2]
    exact hp
  · rw [if_neg c2]
    have hw : k / 4 ≠ (if x = 0 then a else b) := by split <;> assumption
    have hl : k / 4 ≠ (if x = 0 then b else a) := by split <;> assumption
    unfold stl2 stl1
    split
    · rw [tch_at ha hl hw]
      split
      · rw [tch_at ha hw hl]; exact hp
      · exact hp
    · split
      · rw [tch_at ha hw hl]; exact hp
      · exact hp
end QTG
section QTC
variable {ad : Nat → Nat} {d b0 b1 ρ0 ρ1 s a e : Nat} {m m0 : Wm} {g g' g0 : GS} {v : EV} {th : Int32}
theorem HC.cg {b : Nat} (h : HC b m g) (e1 : ∀ k, k < 32 → g'.1 k = g.1 k) (e2 : g'.2 = g.2) : HC b m g' := by
  obtain ⟨h1, h2⟩ := h
  refine ⟨fun k hk => (h1 k hk).trans (e1 k hk).symm, ?_⟩
  rw [e2]
  exact h2
def cpS (s j : Nat) (g g' : GS) : GS := (fun k => if 4 * s ≤ k ∧ k < 4 * s + j then g.1 k else g'.1 k, g'.2)
theorem copySkC (w : WT m) (hb0 : SS b0 ρ0) (hb1 : SS b1 ρ1) (hd : b1 + 4 < b0 ∨ b0 + 4 < b1) (h0 : HC b0 m g') (h1 : HC b1 m g) (hs : s < 8) : Ct ad μX8_copySkills (d + 1) [.ref (ad b0), .ref (ad b1), .int (nI s)] m (fun r m' => r = none ∧ WT m' ∧ Fx (RS [2, ρ0]) m m' ∧ HC b0 m' (cpS s 4 g g')) := by
  have L : ∀ (n j : Nat) (m1 : Wm), j + n = 4 → WT m1 → Fx (RS [2, ρ0]) m m1 → HC b0 m1 (cpS s j g g') → HC b1 m1 g → AW ad E0 μX8_copySkills (d + 1) (fun r m' => r = none ∧ WT m' ∧ Fx (RS [2, ρ0]) m m' ∧ HC b0 m' (cpS s 4 g g')) 2 [(0, .ref (ad b0)), (1, .ref (ad b1)), (2, .int (nI s)), (3, .int (nI j))] [] m1 := by
    intro n
    induction n with
    | zero =>
      intro j m1 hj w1 f1 c0 c1
      obtain rfl : j = 4 := hj
      exact g_X8_copySkills_2 hb0.1 hb1.1 ⟨fun _ => ⟨rfl, w1, f1, c0⟩, fun c => absurd ((le_l 4 4 rfl (by decide) (by decide)).mpr (by omega)) c⟩
    | succ n ih =>
      intro j m1 hj w1 f1 c0 c1
      refine g_X8_copySkills_2 hb0.1 hb1.1 ⟨fun c => absurd ((le_l 4 4 rfl (by decide) (by omega)).mp c) (by omega), fun _ => (skillC (d := d) hb1 c1 hs (a := j) (by omega)).to ?_⟩
      rintro _ m2 ⟨eq, rfl⟩
      obtain rfl := eq.symm
      refine ⟨_, rfl, (putC (d := d) hb0 hs (a := j) (by omega)).to ?_⟩
      rintro _ m3 ⟨rfl, rfl⟩
      rw [nI_1]
      refine ⟨rfl, ih (j + 1) _ (by omega) (hb0.wu w1 (by decide)) (hb0.fu f1 (by decide)) (HC.cg c0.sk (fun k hk => ?_) rfl) (c1.o (by omega))⟩
      show (if 4 * s ≤ k ∧ k < 4 * s + (j + 1) then g.1 k else g'.1 k) = (if k = 4 * s + j then g.1 (4 * s + j) else (if 4 * s ≤ k ∧ k < 4 * s + j then g.1 k else g'.1 k))
      by_cases q : k = 4 * s + j
      · rw [if_pos q, if_pos (by omega), q]
      · rw [if_neg q]
        by_cases q2 : 4 * s ≤ k ∧ k < 4 * s + j
        · rw [if_pos q2, if_pos (by omega)]
        · rw [if_neg q2, if_neg (by omega)]
  refine v_X8_copySkills hb0.1 hb1.1 (L 4 0 m rfl w Fx.rf (h0.cg (fun k _ => ?_) rfl) h1)
  exact if_neg (by omega)
theorem powC26 (w : WT m) (h : HC 26 m g) (hE : EC m v) (hs : s < 8) : Ct ad μX1_power (d + 4) [.ref (ad 3), .ref (ad 26), .int (nI s)] m (fun r m' => WT m' ∧ Fx (RS [14]) m m' ∧ r = some (.int (pwG v g s))) := by
  obtain ⟨P, hP, hRu, hV⟩ := valueC (ad := ad) (d := d) SS_26 (Or.inr (Or.inr (Or.inl rfl))) w h hE hs
  refine v_X1_power (d := d + 3) SS_26.1 ⟨P, hP, hRu, ?_⟩
  rw [hE.2.1]
  refine hV.to ?_
  rintro _ m1 ⟨w1, f1, rfl⟩
  exact ⟨_, rfl, w1, f1, rfl⟩
theorem powAfterC (w : WT m) (h : HC 26 m g) (h0 : HC 21 m g) (hE : EC m v) (hs : s < 8) (ha : a < 8) (he : e < 8) (hae : a ≠ e) (ht : th = 0 ∨ th = 1 ∨ th = 2 ∨ th = 3) : Ct ad μX11_powerAfter (d + 6) [.ref (ad 0), .int (nI s), .int (nI a), .int (nI e), .int th] m (fun r m' => WT m' ∧ Fx (RS [2, 5, 14]) m m' ∧ r = some (.int (pwG v (qtG v a e th g) s)) ∧ HC 26 m' g) := by
  have hG : GR 5 := Or.inr (Or.inr (Or.inl rfl))
  refine v_X11_powerAfter (d := d + 5) ((resultC (d := d + 1) SS_26 hG w h hE ha he ht).to ?_)
  rintro _ m1 ⟨w1, f1, rfl⟩
  refine ⟨_, rfl, (settleC (d := d + 2) (cn := false) SS_26 hG w1 (h.fx SS_26 f1 rfl) (hE.fx f1 rfl) ha he hae (by decide)).to ?_⟩
  rintro _ m2 ⟨rfl, w2, f2, h2⟩
  refine ⟨rfl, (powC26 (d := d + 1) w2 h2 ((hE.fx f1 rfl).fx f2 rfl) hs).to ?_⟩
  rintro _ m3 ⟨w3, f3, rfl⟩
  have h03 : HC 21 m3 g := ((h0.fx SS_21 f1 rfl).fx SS_21 f2 rfl).fx SS_21 f3 rfl
  refine ⟨_, rfl, (copySkC (d := d + 4) w3 SS_26 SS_21 (Or.inl (by decide)) (h2.fx SS_26 f3 rfl) h03 ha).to ?_⟩
  rintro _ m4 ⟨rfl, w4, f4, h4⟩
  refine ⟨rfl, (copySkC (d := d + 4) w4 SS_26 SS_21 (Or.inl (by decide)) h4 (h03.fx SS_21 f4 rfl) he).to ?_⟩
  rintro _ m5 ⟨rfl, w5, f5, h5⟩
  refine ⟨rfl, w5, ((((Fx.tr Fx.rf f1 (RS_sub rfl)).tr f2 (RS_sub rfl)).tr f3 (RS_sub rfl)).tr f4 (RS_sub rfl)).tr f5 (RS_sub rfl), rfl, h5.cg (fun k hk => ?_) stl_f2.symm⟩
  show g.1 k = if 4 * e ≤ k ∧ k < 4 * e + 4 then g.1 k else if 4 * a ≤ k ∧ k < 4 * a + 4 then g.1 k else (stlG false v a e (wnG v g a e th) g).1 k
  split
  · rfl
  · split
    · rfl
    · exact (stl_at hE.2.2.2.1 (by omega) (by omega)).symm
end QTC
section QTM
variable {ad : Nat → Nat} {d n s a e : Nat} {m m0 : Wm} {g g' g0 : GS} {v : EV} {th : Int32}
theorem HM.cg {n : Nat} (h : HM n m g) (e1 : ∀ k, k < 4 * n → g'.1 k = g.1 k) (e2 : g'.2 = g.2) : HM n m g' := by
  obtain ⟨h1, h2⟩ := h
  refine ⟨fun k hk => (h1 k hk).trans (e1 k hk).symm, ?_⟩
  rw [e2]
  exact h2
theorem goQuietM (w : WT m) (h : HM (nE v) m g) (hE : EM m v) (hL : HL (nE v) 204 0 m g0) (h2 : g.2 = g0.2) (ha : a < nE v) (he : e < nE v) (hae : a ≠ e) (ht : th = 0 ∨ th = 1 ∨ th = 2 ∨ th = 3) : Ct ad μX12_goQuiet (d + 170) [.ref (ad 187), .int (nI a), .int (nI e), .int th] m (fun r m' => r = none ∧ WT m' ∧ Fx (RS [22, 24, 28]) m m' ∧ HM (nE v) m' (qtG v a e th g)) := by
  refine v_X12_goQuiet (d := d + 169) ((winnerM (d := d) w h hE ha he).to ?_)
  rintro _ m1 ⟨w1, f1, rfl⟩
  refine ⟨_, rfl, (settleM (d := d + 166) w1 (h.fx f1 rfl rfl) (hE.fx f1 rfl) ha he hae ht).to ?_⟩
  rintro _ m2 ⟨rfl, w2, f2, hm2⟩
  have F2 : Fx (RS [22, 24, 28]) m m2 := (Fx.tr Fx.rf f1 (RS_sub rfl)).tr f2 (RS_sub rfl)
  refine ⟨rfl, ?_⟩
  have L : ∀ (n j : Nat) (m3 : Wm), j + n = 8 → WT m3 → Fx (RS [22, 24, 28]) m m3 → (∀ k, m3.1 188 k = m2.1 188 k) → m3.1 187 8 = m2.1 187 8 → (∀ k, k < j → k < nE v → m3.1 190 k = g0.2.1 k ∧ m3.1 191 k = g0.2.2.1 k ∧ m3.1 192 k = g0.2.2.2.1 k) → AW ad E0 μX12_goQuiet (d + 170) (fun r m' => r = none ∧ WT m' ∧ Fx (RS [22, 24, 28]) m m' ∧ HM (nE v) m' (qtG v a e th g)) 17 [(0, .ref (ad 187)), (4, .int (nI j))] [] m3 := by
    intro n
    induction n with
    | zero =>
      intro j m3 hj w3 f3 k1 k2 k3
      refine g_X12_goQuiet_17 (d := d + 169) ⟨fun _ => ⟨rfl, w3, f3, fun k hk => ?_, fun k hk => ?_, fun k hk => ?_, fun k hk => ?_, ?_⟩, fun c => absurd ((le_l 8 8 rfl (by decide) (by omega)).mpr (by omega)) c⟩
      · rw [k1 k, hm2.1 k hk]
        have e1 : (stlG true v a e (wnG v g a e th) (thG th a e g)).1 = (qtG v a e th g).1 := stl_sk (g := thG th a e g) (g' := g) rfl
        exact congrFun e1 k
      · have e2 : (qtG v a e th g).2 = g0.2 := stl_f2.trans h2
        rw [e2]
        exact (k3 k (by have := hE.2.2.1; omega) hk).1
      · have e2 : (qtG v a e th g).2 = g0.2 := stl_f2.trans h2
        rw [e2]
        exact (k3 k (by have := hE.2.2.1; omega) hk).2.1
      · have e2 : (qtG v a e th g).2 = g0.2 := stl_f2.trans h2
        rw [e2]
        exact (k3 k (by have := hE.2.2.1; omega) hk).2.2
      · rw [k2, hm2.2.2.2.2]
        have e2 : (qtG v a e th g).2 = g.2 := stl_f2
        rw [e2, stl_lu]
        rfl
    | succ n ih =>
      intro j m3 hj w3 f3 k1 k2 k3
      have hL3 : HL (nE v) 204 0 m3 g0 := hL.fx (ρ := 34) f3 (fun _ => rfl) rfl
      refine g_X12_goQuiet_17 (d := d + 169) ⟨fun c => absurd ((le_l 8 8 rfl (by decide) (by omega)).mp c) (by omega), fun _ => ?_⟩
      rw [l_mul 3 3 rfl, l_add 32 32 rfl, add_l 1 1 rfl, add_l 2 2 rfl, nI_clamp (by omega), nI_clamp (by omega), nI_clamp (by omega), nI_clamp (by omega), nI_1]
      refine ⟨nat_in (by omega) (by decide), nat_in (by omega) (by decide), nat_in (by omega) (by decide), nat_in (by omega) (by decide), nat_in (by omega) (by decide), nat_in (by omega) (by decide), ?_⟩
      refine ih (j + 1) _ (by omega) (((w3.n rfl).n rfl).n rfl) (((f3.i rfl).i rfl).i rfl) (fun k => ?_) ?_ (fun k hk hn => ?_)
      · exact ((u_ne (by omega)).trans ((u_ne (by omega)).trans (u_ne (by omega)))).trans (k1 k)
      · exact ((u_ne (by omega)).trans ((u_ne (by omega)).trans (u_ne (by omega)))).trans k2
      · obtain ⟨-, -, l1, l2, l3, -⟩ := hL3
        by_cases q : k = j
        · subst q
          have t1 := l1 k hn
          have t2 := l2 k hn
          have t3 := l3 k hn
          rw [Nat.zero_add] at t1 t2 t3
          refine ⟨?_, ?_, ?_⟩
          · exact (u_ne (by omega)).trans ((u_ne (by omega)).trans (u_eq.trans t1))
          · exact (u_ne (by omega)).trans (u_eq.trans ((u_ne (by omega)).trans t2))
          · exact u_eq.trans ((u_ne (by omega)).trans ((u_ne (by omega)).trans t3))
        · obtain ⟨p1, p2, p3⟩ := k3 k (by omega) hn
          refine ⟨?_, ?_, ?_⟩
          · exact (u_ne (by omega)).trans ((u_ne (by omega)).trans ((u_ne (by omega)).trans p1))
          · exact (u_ne (by omega)).trans ((u_ne (by omega)).trans ((u_ne (by omega)).trans p2))
          · exact (u_ne (by omega)).trans ((u_ne (by omega)).trans ((u_ne (by omega)).trans p3))
  exact L 8 0 m2 (by omega) w2 F2 (fun _ => rfl) rfl (fun k hk => absurd hk (by omega))
end QTM
/-! CALL: next, with its answers -/
abbrev NxS : Type := Int32 × Int32
def nxS (v : EV) (s : Nat) (g : GS) (w a b : Nat) (S : NxS) : NxS :=
  if S.1 = -1 ∨ ¬ pwG v (qtG v a b (nI w) g) s ≤ S.2 then ((((100 : Int32) * nI w) + ((10 : Int32) * nI a)) + nI b, pwG v (qtG v a b (nI w) g) s) else S
def nxB (v : EV) (s : Nat) (g : GS) (w a : Nat) : Nat → Nat → NxS → NxS
  | 0, _, S => S
  | k + 1, b, S => nxB v s g w a k (b + 1) (nxS v s g w a b S)
def nxA (v : EV) (s : Nat) (g : GS) (w n : Nat) : Nat → Nat → NxS → NxS
  | 0, _, S => S
  | k + 1, a, S => nxA v s g w n k (a + 1) (nxB v s g w a (n - (a + 1)) (a + 1) S)
def nxW (v : EV) (s : Nat) (g : GS) (n : Nat) : Nat → Nat → NxS → NxS
  | 0, _, S => S
  | k + 1, w, S => nxW v s g n k (w + 1) (nxA v s g w n n 0 S)
def nxO (v : EV) (x : Int32) (g : GS) : Int32 := if 0 ≤ x.toInt ∧ x.toInt < nE v then (if nE v < 2 then -2 else (nxW v x.toNatClampNeg g (nE v) 3 0 (-1, 0)).1) else -1
theorem nxS_1 {v : EV} {s w a b : Nat} {g : GS} {S : NxS} (h : S.1 = -1) : nxS v s g w a b S = ((((100 : Int32) * nI w) + ((10 : Int32) * nI a)) + nI b, pwG v (qtG v a b (nI w) g) s) := if_pos (Or.inl h)
theorem nxS_2 {v : EV} {s w a b : Nat} {g : GS} {S : NxS} (h : ¬ pwG v (qtG v a b (nI w) g) s ≤ S.2) : nxS v s g w a b S = ((((100 : Int32) * nI w) + ((10 : Int32) * nI a)) + nI b, pwG v (qtG v a b (nI w) g) s) := if_pos (Or.inr h)
theorem nxS_3 {v : EV} {s w a b : Nat} {g : GS} {S : NxS} (h1 : ¬ S.1 = -1) (h : pwG v (qtG v a b (nI w) g) s ≤ S.2) : nxS v s g w a b S = S := if_neg (fun z => z.elim h1 (fun q => q h))
section NXC
variable {ad : Nat → Nat} {d s : Nat} {m m0 : Wm} {g : GS} {v : EV}
/-- between two tries of the class -/
def ncI (v : EV) (g : GS) (m0 m : Wm) : Prop := WT m ∧ Fx (RS [2, 5, 14]) m0 m ∧ HC 26 m g ∧ HC 21 m g ∧ EC m v
def ncQ (m0 : Wm) (x : Int32) (r : Option Value) (m' : Wm) : Prop := WT m' ∧ Fx (RS [2, 5, 9, 14]) m0 m' ∧ r = some (.int x)
theorem nc_72 {Q : Option Value → Wm → Prop} {w a : Nat} {T : NxS} (hs : s < nE v) (hw : w ≤ 2) (ha : a < nE v)
    (K : ∀ m1, ncI v g m0 m1 → AW ad E0 μX11_next (d + 7) Q 54 [(0, .ref (ad 0)), (1, .int (nI s)), (2, .int T.1), (3, .int T.2), (4, .int (nI w)), (5, .int (nI (a + 1)))] [] m1) :
    ∀ (k b : Nat) (S : NxS) (m1 : Wm), a < b → b + k = nE v → nxB v s g w a k b S = T → ncI v g m0 m1 → AW ad E0 μX11_next (d + 7) Q 72 [(0, .ref (ad 0)), (1, .int (nI s)), (2, .int S.1), (3, .int S.2), (4, .int (nI w)), (5, .int (nI a)), (6, .int (nI b))] [] m1 := by
  intro k
  induction k with
  | zero =>
    intro b S m1 hab hk hT J
    have n8 := J.2.2.2.2.2.2.1
    have e33 := J.2.2.2.2.1
    obtain rfl : S = T := hT
    refine g_X11_next_72 (d := d + 6) ⟨fun _ => ?_, fun c => absurd (by rw [e33]; exact (nI_leI (by omega) (by omega)).mpr (by omega)) c⟩
    rw [nI_1]
    exact K m1 J
  | succ k ih =>
    intro b S m1 hab hk hT J
    have n8 := J.2.2.2.2.2.2.1
    have e33 := J.2.2.2.2.1
    obtain ⟨w1, f1, h26, h21, ec⟩ := J
    refine g_X11_next_72 (d := d + 6) ⟨fun c => absurd (by rw [e33] at c; exact (nI_leI (by omega) (by omega)).mp c) (by omega), fun _ => (powAfterC (d := d) w1 h26 h21 ec (s := s) (a := a) (e := b) (by omega) (by omega) (by omega) (by omega) (th_of hw)).to ?_⟩
    rintro _ m2 ⟨w2, f2, rfl, h2⟩
    have J2 : ncI v g m0 m2 := ⟨w2, f1.tr f2 (fun _ _ h => h), h2, h21.fx SS_21 f2 rfl, ec.fx f2 rfl⟩
    have G : nxS v s g w a b S = ((((100 : Int32) * nI w) + ((10 : Int32) * nI a)) + nI b, pwG v (qtG v a b (nI w) g) s) → AW ad E0 μX11_next (d + 7) Q 108 [(0, .ref (ad 0)), (1, .int (nI s)), (4, .int (nI w)), (5, .int (nI a)), (6, .int (nI b)), (7, .int (pwG v (qtG v a b (nI w) g) s))] [] m2 := fun e => by
      refine g_X11_next_108 (d := d + 6) ?_
      rw [nI_1]
      have := ih (b + 1) (nxS v s g w a b S) m2 (by omega) (by omega) hT J2
      rw [e] at this
      exact this
    refine ⟨_, rfl, fun c => G (nxS_1 c), fun c => ⟨fun c2 => ?_, fun c2 => G (nxS_2 c2)⟩⟩
    rw [nI_1]
    have := ih (b + 1) (nxS v s g w a b S) m2 (by omega) (by omega) hT J2
    rw [nxS_3 c c2] at this
    exact this
theorem nc_54 {Q : Option Value → Wm → Prop} {w : Nat} {T : NxS} (hs : s < nE v) (hw : w ≤ 2)
    (K : ∀ m1, ncI v g m0 m1 → AW ad E0 μX11_next (d + 7) Q 45 [(0, .ref (ad 0)), (1, .int (nI s)), (2, .int T.1), (3, .int T.2), (4, .int (nI (w + 1)))] [] m1) :
    ∀ (k a : Nat) (S : NxS) (m1 : Wm), a + k = nE v → nxA v s g w (nE v) k a S = T → ncI v g m0 m1 → AW ad E0 μX11_next (d + 7) Q 54 [(0, .ref (ad 0)), (1, .int (nI s)), (2, .int S.1), (3, .int S.2), (4, .int (nI w)), (5, .int (nI a))] [] m1 := by
  intro k
  induction k with
  | zero =>
    intro a S m1 hk hT J
    have n8 := J.2.2.2.2.2.2.1
    have e33 := J.2.2.2.2.1
    obtain rfl : S = T := hT
    refine g_X11_next_54 (d := d + 6) ⟨fun _ => ?_, fun c => absurd (by rw [e33]; exact (nI_leI (by omega) (by omega)).mpr (by omega)) c⟩
    rw [nI_1]
    exact K m1 J
  | succ k ih =>
    intro a S m1 hk hT J
    have n8 := J.2.2.2.2.2.2.1
    have e33 := J.2.2.2.2.1
    refine g_X11_next_54 (d := d + 6) ⟨fun c => absurd (by rw [e33] at c; exact (nI_leI (by omega) (by omega)).mp c) (by omega), fun _ => ?_⟩
    rw [nI_1]
    exact nc_72 hs hw (by omega) (fun m2 J2 => ih (a + 1) _ m2 (by omega) hT J2) (nE v - (a + 1)) (a + 1) S m1 (by omega) (by omega) rfl J
theorem nc_45 {T : NxS} (hs : s < nE v) : ∀ (k w : Nat) (S : NxS) (m1 : Wm), w + k = 3 → nxW v s g (nE v) k w S = T → ncI v g m0 m1 → AW ad E0 μX11_next (d + 7) (ncQ m0 T.1) 45 [(0, .ref (ad 0)), (1, .int (nI s)), (2, .int S.1), (3, .int S.2), (4, .int (nI w))] [] m1 := by
  intro k
  induction k with
  | zero =>
    intro w S m1 hk hT J
    obtain rfl : S = T := hT
    refine g_X11_next_45 (d := d + 6) ⟨fun _ => (s_X11_tell J.1).to ?_, fun c => absurd ((le_l 3 3 rfl (by decide) (by omega)).mpr (by omega)) c⟩
    rintro _ m2 ⟨w2, f2, rfl⟩
    exact ⟨rfl, w2, (Fx.tr Fx.rf J.2.1 (RS_sub rfl)).tr f2 (RS_sub rfl), rfl⟩
  | succ k ih =>
    intro w S m1 hk hT J
    exact g_X11_next_45 (d := d + 6) ⟨fun c => absurd ((le_l 3 3 rfl (by decide) (by omega)).mp c) (by omega), fun _ => nc_54 hs (by omega) (fun m2 J2 => ih (w + 1) _ m2 (by omega) hT J2) (nE v) 0 S m1 (by omega) rfl J⟩
theorem e_nextC {x1 : Int32} (w : WT m) (hc : HC 21 m g) (ec : EC m v) : Ct ad μX11_next (d + 7) [.ref (ad 0), .int x1] m (ncQ m (nxO v x1 g)) := by
  have n8 := ec.2.2.1
  refine v_X11_next (d := d + 6) ((hasC (d := d + 6) ec.1 n8).to ?_)
  rintro _ m1 ⟨eq, v1, rfl, y1, y2⟩
  obtain rfl := eq.symm
  refine ⟨v1, rfl, fun q => ?_, fun q => ⟨w, Fx.rf, ?_⟩⟩
  · have hI := y2 q
    obtain ⟨s, hs, rfl⟩ := hI.of
    refine ⟨fun c => (copyC (d := d + 5) w SS_26 SS_21 (Or.inl (by decide)) hc).to ?_, fun c => ⟨w, Fx.rf, ?_⟩⟩
    · rw [ec.1] at c
      have c := (le_l 2 2 rfl (by decide) (by omega)).mp c
      rintro _ m1 ⟨rfl, w1, f1, h1⟩
      have eo : nxO v (nI s) g = (nxW v s g (nE v) 3 0 (-1, 0)).1 := by
        unfold nxO
        rw [if_pos (inN_of hI), if_neg (by omega), nI_clamp (by omega)]
      rw [eo]
      exact ⟨rfl, nc_45 (d := d) hs 3 0 (-1, 0) m1 rfl rfl ⟨w1, Fx.tr Fx.rf f1 (RS_sub rfl), h1, hc.fx SS_21 f1 rfl, ec.fx f1 rfl⟩⟩
    · rw [ec.1] at c
      have c : ¬ 2 ≤ nE v := fun z => c ((le_l 2 2 rfl (by decide) (by omega)).mpr z)
      unfold nxO
      rw [if_pos (inN_of hI), if_pos (by omega)]
  · unfold nxO
    rw [if_neg (ninN_of (y1 q))]
end NXC
section NXM
variable {ad : Nat → Nat} {d s : Nat} {m m0 : Wm} {g : GS} {v : EV}
/-- between two tries of the model -/
def nmI (v : EV) (g : GS) (m0 m : Wm) : Prop := WT m ∧ Fx (RS [20, 22, 24, 26, 28, 34, 49]) m0 m ∧ HM (nE v) m g ∧ HL (nE v) 204 0 m g ∧ EM m v
def nmQ (v : EV) (g : GS) (m0 : Wm) (x : Int32) (r : Option Value) (m' : Wm) : Prop := WT m' ∧ Fx (RS [20, 22, 24, 26, 28, 34, 49]) m0 m' ∧ HM (nE v) m' g ∧ r = some (.int x)
theorem nm_66 {Q : Option Value → Wm → Prop} {w a : Nat} {T : NxS} (hs : s < nE v) (hw : w ≤ 2) (ha : a < nE v)
    (K : ∀ m1, nmI v g m0 m1 → AW ad E0 μX12_next (d + 171) Q 51 [(0, .ref (ad 187)), (1, .int (nI s)), (2, .int T.1), (3, .int T.2), (4, .int (nI w)), (5, .int (nI (a + 1)))] [] m1) :
    ∀ (k b : Nat) (S : NxS) (m1 : Wm), a < b → b + k = nE v → nxB v s g w a k b S = T → nmI v g m0 m1 → AW ad E0 μX12_next (d + 171) Q 66 [(0, .ref (ad 187)), (1, .int (nI s)), (2, .int S.1), (3, .int S.2), (4, .int (nI w)), (5, .int (nI a)), (6, .int (nI b))] [] m1 := by
  intro k
  induction k with
  | zero =>
    intro b S m1 hab hk hT J
    have em := J.2.2.2.2
    have n8 := em.2.2.1
    obtain rfl : S = T := hT
    refine g_X12_next_66 (d := d + 170) ⟨fun _ => ?_, fun c => absurd (by rw [em.1]; exact (nI_leI (by omega) (by omega)).mpr (by omega)) c⟩
    rw [nI_1]
    exact K m1 J
  | succ k ih =>
    intro b S m1 hab hk hT J
    obtain ⟨w1, f1, hm, hl, em⟩ := J
    have n8 := em.2.2.1
    refine g_X12_next_66 (d := d + 170) ⟨fun c => absurd (by rw [em.1] at c; exact (nI_leI (by omega) (by omega)).mp c) (by omega), fun _ => (goQuietM (d := d) w1 hm em hl rfl (a := a) (e := b) (by omega) (by omega) (by omega) (th_of hw)).to ?_⟩
    rintro _ m2 ⟨rfl, w2, f2, hm2⟩
    refine ⟨rfl, (powerM (d := d + 2) w2 hm2 (em.fx f2 rfl) hs).to ?_⟩
    rintro _ m3 ⟨w3, f3, rfl⟩
    have hl3 : HL (nE v) 204 0 m3 g := (hl.fx (ρ := 34) f2 (fun _ => rfl) rfl).fx (ρ := 34) f3 (fun _ => rfl) rfl
    refine ⟨_, rfl, (bringH (x := 0) (na := 57) rfl (by decide) (by decide) w3 hl3 (by decide)).to ?_⟩
    rintro _ m4 ⟨rfl, w4, f4, hm4⟩
    have J4 : nmI v g m0 m4 := ⟨w4, ((f1.tr f2 (RS_sub rfl)).tr f3 (RS_sub rfl)).tr f4 (RS_sub rfl), hm4, hl3.fx (ρ := 34) f4 (fun _ => rfl) rfl, ((em.fx f2 rfl).fx f3 rfl).fx f4 rfl⟩
    have G : nxS v s g w a b S = ((((100 : Int32) * nI w) + ((10 : Int32) * nI a)) + nI b, pwG v (qtG v a b (nI w) g) s) → AW ad E0 μX12_next (d + 171) Q 115 [(0, .ref (ad 187)), (1, .int (nI s)), (4, .int (nI w)), (5, .int (nI a)), (6, .int (nI b)), (7, .int (pwG v (qtG v a b (nI w) g) s))] [] m4 := fun e => by
      refine g_X12_next_115 (d := d + 170) ?_
      rw [nI_1]
      have := ih (b + 1) (nxS v s g w a b S) m4 (by omega) (by omega) hT J4
      rw [e] at this
      exact this
    refine ⟨rfl, fun c => G (nxS_1 c), fun c => ⟨fun c2 => G (nxS_2 (fun z => ?_)), fun c2 => ?_⟩⟩
    · have := z_lt c2
      have := z_le z
      omega
    · have c3 : pwG v (qtG v a b (nI w) g) s ≤ S.2 := (fa_le _ _).mpr (z_nlt c2)
      rw [nI_1]
      have := ih (b + 1) (nxS v s g w a b S) m4 (by omega) (by omega) hT J4
      rw [nxS_3 c c3] at this
      exact this
theorem nm_51 {Q : Option Value → Wm → Prop} {w : Nat} {T : NxS} (hs : s < nE v) (hw : w ≤ 2)
    (K : ∀ m1, nmI v g m0 m1 → AW ad E0 μX12_next (d + 171) Q 42 [(0, .ref (ad 187)), (1, .int (nI s)), (2, .int T.1), (3, .int T.2), (4, .int (nI (w + 1)))] [] m1) :
    ∀ (k a : Nat) (S : NxS) (m1 : Wm), a + k = nE v → nxA v s g w (nE v) k a S = T → nmI v g m0 m1 → AW ad E0 μX12_next (d + 171) Q 51 [(0, .ref (ad 187)), (1, .int (nI s)), (2, .int S.1), (3, .int S.2), (4, .int (nI w)), (5, .int (nI a))] [] m1 := by
  intro k
  induction k with
  | zero =>
    intro a S m1 hk hT J
    have em := J.2.2.2.2
    have n8 := em.2.2.1
    obtain rfl : S = T := hT
    refine g_X12_next_51 (d := d + 170) ⟨fun _ => ?_, fun c => absurd (by rw [em.1]; exact (nI_leI (by omega) (by omega)).mpr (by omega)) c⟩
    rw [nI_1]
    exact K m1 J
  | succ k ih =>
    intro a S m1 hk hT J
    have em := J.2.2.2.2
    have n8 := em.2.2.1
    refine g_X12_next_51 (d := d + 170) ⟨fun c => absurd (by rw [em.1] at c; exact (nI_leI (by omega) (by omega)).mp c) (by omega), fun _ => ?_⟩
    rw [nI_1]
    exact nm_66 hs hw (by omega) (fun m2 J2 => ih (a + 1) _ m2 (by omega) hT J2) (nE v - (a + 1)) (a + 1) S m1 (by omega) (by omega) rfl J
theorem nm_42 {T : NxS} (hs : s < nE v) : ∀ (k w : Nat) (S : NxS) (m1 : Wm), w + k = 3 → nxW v s g (nE v) k w S = T → nmI v g m0 m1 → AW ad E0 μX12_next (d + 171) (nmQ v g m0 T.1) 42 [(0, .ref (ad 187)), (1, .int (nI s)), (2, .int S.1), (3, .int S.2), (4, .int (nI w))] [] m1 := by
  intro k
  induction k with
  | zero =>
    intro w S m1 hk hT J
    obtain rfl : S = T := hT
    obtain ⟨w1, f1, hm1, hl1, em1⟩ := J
    have w2 : WT (uI m1 187 16 (0 : Int32)) := w1.t rfl (by decide) (by decide)
    have e16 : ((uI m1 187 16 (0 : Int32)).1 187 16).toInt = 0 := by
      rw [u_eq]
      rfl
    have hm2 : HM (nE v) (uI m1 187 16 (0 : Int32)) g := hm1
    refine g_X12_next_42 (d := d + 170) ⟨fun _ => (s_X12_tell w2 (by omega)).to ?_, fun c => absurd ((le_l 3 3 rfl (by decide) (by omega)).mpr (by omega)) c⟩
    rintro _ m3 ⟨w3, f3, rfl, -⟩
    exact ⟨rfl, w3, (f1.i rfl).tr f3 (RS_sub rfl), hm2.fx f3 rfl rfl, rfl⟩
  | succ k ih =>
    intro w S m1 hk hT J
    exact g_X12_next_42 (d := d + 170) ⟨fun c => absurd ((le_l 3 3 rfl (by decide) (by omega)).mp c) (by omega), fun _ => nm_51 hs (by omega) (fun m2 J2 => ih (w + 1) _ m2 (by omega) hT J2) (nE v) 0 S m1 (by omega) rfl J⟩
theorem e_nextM {x1 : Int32} (w : WT m) (hm : HM (nE v) m g) (em : EM m v) : Ct ad μX12_next (d + 171) [.ref (ad 187), .int x1] m (nmQ v g m (nxO v x1 g)) := by
  have n8 := em.2.2.1
  have w0 : WT (uI m 187 17 0) := w.n rfl
  have f0 : Fx (RS [20, 22, 24, 26, 28, 34, 49]) m (uI m 187 17 0) := Fx.rf.i rfl
  have hm0 : HM (nE v) (uI m 187 17 0) g := hm
  have em0 : EM (uI m 187 17 0) v := em
  refine v_X12_next (d := d + 170) ?_
  generalize uI m 187 17 0 = m1 at w0 f0 hm0 em0 ⊢
  refine (sideM (d := d + 169) em0.1 n8).to ?_
  rintro _ m2 ⟨eq, v1, rfl, y1, y2⟩
  obtain rfl := eq.symm
  refine ⟨v1, rfl, fun q => ?_, fun q => ⟨w0, f0, hm0, ?_⟩⟩
  · have hI := y2 q
    obtain ⟨s, hs, rfl⟩ := hI.of
    refine ⟨fun c => (layH (x := 0) (na := 57) (reg := 34) rfl (by decide) (by decide) (fun _ => rfl) (fun _ => rfl) w0 hm0 n8 (by decide)).to ?_, fun c => ⟨w0, f0, hm0, ?_⟩⟩
    · rw [em0.1] at c
      have c := (le_l 2 2 rfl (by decide) (by omega)).mp c
      rintro _ m3 ⟨rfl, w3, f3, hl3, -, -⟩
      have eo : nxO v (nI s) g = (nxW v s g (nE v) 3 0 (-1, 0)).1 := by
        unfold nxO
        rw [if_pos (inN_of hI), if_neg (by omega), nI_clamp (by omega)]
      rw [eo]
      exact ⟨rfl, nm_42 (d := d) hs 3 0 (-1, 0) m3 rfl rfl ⟨w3, f0.tr f3 (RS_sub rfl), hm0.fx f3 rfl rfl, hl3, em0.fx f3 rfl⟩⟩
    · rw [em0.1] at c
      have c : ¬ 2 ≤ nE v := fun z => c ((le_l 2 2 rfl (by decide) (by omega)).mpr z)
      unfold nxO
      rw [if_pos (inN_of hI), if_pos (by omega)]
  · unfold nxO
    rw [if_neg (ninN_of (y1 q))]
theorem og_next (c : Nat) (x1 : Int32) : Both ad d μX11_next μX12_next [.int x1] (InvK (KX KG c)) (InvK (KX KG (c + 1))) := fun m I => by
  obtain ⟨w, I1, ⟨g, v, H, kd⟩, kb⟩ := I
  refine (e_nextC (d := d + 293) (x1 := x1) w kd.1 kd.2.2.1).to ?_
  rintro _ m1 ⟨w1, f1, rfl⟩
  have kd1 := kd.fx f1 rfl
  refine ⟨_, rfl, (e_nextM (d := d + 129) (x1 := x1) w1 kd1.2.1 kd1.2.2.2.1).to ?_⟩
  rintro _ m2 ⟨w2, f2, hm2, rfl⟩
  exact ⟨rfl, w2, I1.f2 f1 f2 rfl rfl, ⟨g, v, H, kd1.hms f2 rfl hm2⟩, KB.fd c f1 f2 kb rfl rfl⟩
end NXM
/-! WHAT HAPPENS AHEAD: rounds on a copy, what all sides know; a plan, or none -/
def PlO (v : EV) (m : Wm) : Option PLN → Prop
  | none => m.1 187 11 = 0 ∧ ∃ P Q, PRF m P Q ∧ m.1 P 5 = 0
  | some p => PlnOK v p ∧ PlnC m p ∧ PlnM m p
/-- the league behind n rounds, by no luck -/
def ahG (v : EV) (p : PLN) (n nr : Nat) (g : GS) : GS := (rdsR false false v p n nr (g, [], 0, 0)).1
def toF (f : Nat → Int32) (ar : Nat) : Nat → Int32
  | 0 => 0
  | k + 1 => toF f ar k + smF f (4 * k) ar
def totG (v : EV) (g : GS) : Int32 := toF g.1 (aE v) (nE v)
section AHP
variable {v : EV} {p : PLN} {m m' : Wm} {S : List Nat} {op : Option PLN} {g g' : GS} {a b : Nat} {th : Int32} {lk : Bool}
theorem plO_of (h : PlR m) (ec : EC m v) : ∃ op, PlO v m op := by
  by_cases h0 : m.1 187 11 = 0
  · obtain ⟨P, Q, hR, n, R, gN, sn, x1, x2, x3, x4, -⟩ := h
    exact ⟨none, h0, P, Q, hR, x3.trans (x4.symm.trans h0)⟩
  · obtain ⟨p, hp⟩ := pln_of h ec h0
    exact ⟨some p, hp⟩
theorem PlO.fx (h : PlO v m op) (f : Fx (RS S) m m') (e7 : S.elem 7 = false) (e54 : S.elem 54 = false) (e25 : S.elem 25 = false) (e55 : S.elem 55 = false) : PlO v m' op := by
  cases op with
  | none =>
    obtain ⟨h1, P, Q, hR, h2⟩ := h
    have := hR.2.2
    exact ⟨(f.at (nRS (ρ := 25) e25 rfl)).trans h1, P, Q, hR.fx f e54, (f.at (n7 e7 5 (by omega) (by omega))).trans h2⟩
  | some p => exact ⟨h.1, h.2.1.fx f e7 e54, h.2.2.fx f e25 e55⟩
theorem PlnOK.ne (h : PlnOK v p) : ¬ nI (rdP p) = 0 := fun z => by
  have h1 := h.1
  have h2 := h.2.1
  have := (nI_eq (a := rdP p) (b := 0) (by omega) (by omega)).mp z
  omega
theorem PlO.c (h : PlO v m op) : ∃ P, m.2.2 0 9 = some P ∧ Pl P ∧ (m.1 P 5 = 0 ↔ op = none) := by
  cases op with
  | none =>
    obtain ⟨h1, P, Q, hR, h2⟩ := h
    obtain ⟨q1, q2, -⟩ := hR.pl
    exact ⟨P, q1, q2, fun _ => rfl, fun _ => h2⟩
  | some p =>
    obtain ⟨hp, ⟨P, Q, hR, h2, -⟩, -⟩ := h
    obtain ⟨q1, q2, -⟩ := hR.pl
    exact ⟨P, q1, q2, fun z => absurd (h2.symm.trans z) hp.ne, fun z => by cases z⟩
theorem PlO.mm (h : PlO v m op) : m.1 187 11 = 0 ↔ op = none := by
  cases op with
  | none => exact ⟨fun _ => rfl, fun _ => h.1⟩
  | some p => exact ⟨fun z => absurd (h.2.2.1.symm.trans z) h.1.ne, fun z => by cases z⟩
theorem run_1 {sv sv' : Bool} : ∀ (k j : Nat) (T T' : RSt), T.1 = T'.1 → (runR lk sv v p k j T).1 = (runR lk sv' v p k j T').1 := by
  intro k
  induction k with
  | zero => intro j T T' h; exact h
  | succ k ih =>
    intro j T T' h
    refine ih (j + 1) (stepR lk sv v p j T) (stepR lk sv' v p j T') ?_
    show goG lk v (f1P p j) (f2P p j) (thP p j) T.1 = goG lk v (f1P p j) (f2P p j) (thP p j) T'.1
    rw [h]
theorem rds_1 {sv sv' : Bool} : ∀ (k ρ : Nat) (T T' : RSt), T.1 = T'.1 → (rdsR lk sv v p k ρ T).1 = (rdsR lk sv' v p k ρ T').1 := by
  intro k
  induction k with
  | zero => intro ρ T T' h; exact h
  | succ k ih => intro ρ T T' h; exact ih _ _ _ (run_1 _ _ _ _ h)
theorem go_E (h : GE g g') : GE (stlG true v a b (wnG v g a b th) g) (goG false v a b th g') := by
  have nb : ¬ byG false v th := fun z => absurd z.1 (by decide)
  unfold goG wonG drwG
  rw [if_neg nb, if_neg nb, wnG_E h]
  exact stlG_E ⟨h.1, h.2.1, h.2.2⟩
theorem toF_ch {f f' : Nat → Int32} {ar : Nat} (ha : ar ≤ 4) : ∀ n, (∀ k, k < 4 * n → f k = f' k) → toF f ar n = toF f' ar n := by
  intro n
  induction n with
  | zero => intro _; rfl
  | succ n ih =>
    intro h
    show toF f ar n + smF f (4 * n) ar = toF f' ar n + smF f' (4 * n) ar
    rw [ih (fun k hk => h k (by omega)), smF_ch ar (fun k h1 h2 => h k (by omega))]
theorem totG_E (h : GE g g') : totG v g = totG v g' := by
  unfold totG
  rw [h.1]
end AHP
section AHC
variable {ad : Nat → Nat} {d b ρ : Nat} {m m0 : Wm} {g : GS} {v : EV} {p : PLN}
def ahI (m0 : Wm) (S : RSt) (m : Wm) : Prop := WT m ∧ Fx (RS [2, 5, 14]) m0 m ∧ ∃ g', GE g' S.1 ∧ HC 26 m g'
set_option maxHeartbeats 1000000 in
theorem ah_45 (hp : PlnOK v p) {x1 x3 : Int32} {ρ : Nat} (hρ : ρ < rdP p) {Q : Option Value → Wm → Prop} (T : RSt) (hE : EC m0 v) (hP : PlnC m0 p)
    (K : ∀ m1, ahI m0 T m1 → AW ad E0 μX11_playAhead (d + 5) Q 18 [(0, .ref (ad 0)), (1, .int x1), (2, .int (nI (nxP p ρ))), (3, .int (x3 + (1 : Int32)))] [] m1) :
    ∀ (n j : Nat) (S : RSt) (m : Wm), j + n = enP p ρ → ahI m0 S m → T = runR false false v p n j S →
      AW ad E0 μX11_playAhead (d + 5) Q 45 [(0, .ref (ad 0)), (1, .int x1), (2, .int (nI ρ)), (3, .int x3), (4, .int (nI (enP p ρ))), (5, .int (nI j))] [] m := by
  intro n
  have hen := hp.en hρ
  have hG : GR 5 := Or.inr (Or.inr (Or.inl rfl))
  obtain ⟨a1, a2, a3, a4, a5⟩ := hp
  induction n with
  | zero =>
    intro j S m hj R hT
    obtain ⟨P, Q', hR, p1, p2, p3, p4⟩ := hP.fx R.2.1 rfl rfl
    obtain ⟨q1, q2, q3⟩ := hR.pl
    refine g_X11_playAhead_45 (d := d + 4) ⟨fun _ => ⟨P, q1, q2, ?_⟩, fun c => absurd ((nI_leI (by omega) (by omega)).mpr (by omega)) c⟩
    refine (afterC (d := d + 4) (p := p) q2 p1 a2 (by omega)).to ?_
    rintro _ m2 ⟨eq, rfl⟩
    obtain rfl := eq.symm
    have hT' : T = S := hT
    rw [← hT'] at R
    exact ⟨_, rfl, K _ R⟩
  | succ n ih =>
    intro j S m hj R hT
    obtain ⟨w, f, g', hg, h26⟩ := R
    obtain ⟨P, Q', hR, p1, p2, p3, p4⟩ := hP.fx f rfl rfl
    have hPQ := hR.2.2
    obtain ⟨q1, q2, q3⟩ := hR.pl
    obtain ⟨b1, b2, b3⟩ := p3 j (by omega)
    obtain ⟨c1, c2, c3, c4⟩ := a5 j (by omega)
    have E1 := hE.fx f rfl
    have n8 := E1.2.2.1
    refine g_X11_playAhead_45 (d := d + 4) ⟨fun c => absurd ((nI_leI (by omega) (by omega)).mp c) (by omega), fun _ => ?_⟩
    refine ⟨P, q1, q2, nat_in (by omega) (by decide), P, q1, q2, nat_in (by omega) (by decide), P, q1, q2, nat_in (by omega) (by decide), ?_⟩
    rw [nI_clamp (by omega), b1, b2, b3]
    refine (resultC (d := d) SS_26 hG w h26 E1 (by omega) (by omega) c4).to ?_
    rintro _ m2 ⟨w2, f2, rfl⟩
    obtain ⟨r1, r2, -⟩ := (hR.fx f2 rfl).pl
    have e1 : m2.1 (P + 1) j = nI (f1P p j) := (f2.at (n7 rfl j (by omega) (by omega))).trans b1
    have e2 : m2.1 (P + 2) j = nI (f2P p j) := (f2.at (n7 rfl j (by omega) (by omega))).trans b2
    refine ⟨_, rfl, P, r1, r2, nat_in (by omega) (by decide), P, r1, r2, nat_in (by omega) (by decide), ?_⟩
    rw [e1, e2, nI_1]
    refine (settleC (d := d + 1) (cn := true) SS_26 hG w2 (h26.fx SS_26 f2 rfl) (E1.fx f2 rfl) (by omega) (by omega) c3 (by decide)).to ?_
    rintro _ m3 ⟨rfl, w3, f3, h3⟩
    exact ⟨rfl, ih (j + 1) (stepR false false v p j S) m3 (by omega) ⟨w3, (f.tr f2 (RS_sub rfl)).tr f3 (RS_sub rfl), _, go_E hg, h3⟩ hT⟩
theorem ah_18 (hp : PlnOK v p) {n : Nat} (hn : n ≤ 200) (T : RSt) (hE : EC m0 v) (hP : PlnC m0 p) :
    ∀ (k i ρ : Nat) (S : RSt) (m : Wm), i + k = n → ρ < rdP p → ahI m0 S m → T = rdsR false false v p k ρ S →
      AW ad E0 μX11_playAhead (d + 5) (fun r m' => r = none ∧ ahI m0 T m') 18 [(0, .ref (ad 0)), (1, .int (nI n)), (2, .int (nI ρ)), (3, .int (nI i))] [] m := by
  intro k
  have hp2 := hp.2.1
  induction k with
  | zero =>
    intro i ρ S m hi hρ R hT
    have hT' : T = S := hT
    rw [← hT'] at R
    exact g_X11_playAhead_18 (d := d + 4) ⟨fun _ => ⟨rfl, R⟩, fun c => absurd ((nI_leI (by omega) (by omega)).mpr (by omega)) c⟩
  | succ k ih =>
    intro i ρ S m hi hρ R hT
    obtain ⟨P, Q', hR, p1, p2, p3, p4⟩ := hP.fx R.2.1 rfl rfl
    obtain ⟨q1, q2, q3⟩ := hR.pl
    have hen := hp.en hρ
    refine g_X11_playAhead_18 (d := d + 4) ⟨fun c => absurd ((nI_leI (by omega) (by omega)).mp c) (by omega), fun _ => ⟨P, q1, q2, ?_⟩⟩
    rw [nI_1]
    refine (beginC (d := d + 4) (p := p) q2 p1 p2 p4 hp2 (by omega)).to ?_
    rintro _ m2 ⟨eq, rfl⟩
    obtain rfl := eq.symm
    refine ⟨_, rfl, P, q1, q2, ?_⟩
    refine (beginC (d := d + 4) (p := p) q2 p1 p2 p4 hp2 (by omega)).to ?_
    rintro _ m2 ⟨eq, rfl⟩
    obtain rfl := eq.symm
    refine ⟨_, rfl, ?_⟩
    rw [if_pos hρ]
    exact ah_45 (d := d) (x1 := nI n) (x3 := nI i) hp hρ (runR false false v p (enP p ρ - snP p ρ) (snP p ρ) S) hE hP (fun m1 R1 => by
      rw [nI_1]
      exact ih (i + 1) (nxP p ρ) _ m1 (by omega) (nxP_lt hp) R1 hT) (enP p ρ - snP p ρ) (snP p ρ) S m (by omega) R rfl
theorem aheadC (hp : PlnOK v p) {n nr : Nat} (hn : n ≤ 200) (hnr : nr < rdP p) (w : WT m) (hc : HC 21 m g) (hE : EC m v) (hP : PlnC m p) (h11 : m.1 0 11 = nI nr) : Ct ad μX11_playAhead (d + 5) [.ref (ad 0), .int (nI n)] m (fun r m' => r = none ∧ WT m' ∧ Fx (RS [2, 5, 14]) m m' ∧ ∃ g', GE g' (ahG v p n nr g) ∧ HC 26 m' g') := by
  refine v_X11_playAhead (d := d + 4) ((copyC (d := d + 3) w SS_26 SS_21 (Or.inl (by decide)) hc).to ?_)
  rintro _ m1 ⟨rfl, w1, f1, h1⟩
  have e11 : m1.1 0 11 = nI nr := (f1.at (nRS (ρ := 44) rfl rfl)).trans h11
  rw [e11]
  exact ⟨rfl, ah_18 (d := d) (m0 := m) hp hn (rdsR false false v p n nr (g, [], 0, 0)) hE hP n 0 nr (g, [], 0, 0) m1 (by omega) hnr ⟨w1, Fx.tr Fx.rf f1 (RS_sub rfl), g, ⟨rfl, rfl, rfl⟩, h1⟩ rfl⟩
theorem totC (hb : SS b ρ) (h : HC b m g) (hE : EC m v) : Ct ad μX1_total (d + 2) [.ref (ad 3), .ref (ad b)] m (fun r m' => m' = m ∧ r = some (.int (totG v g))) := by
  have n8 := hE.2.2.1
  have a4 := hE.2.2.2.1
  have L : ∀ (j k : Nat), k + j = nE v → AW ad E0 μX1_total (d + 2) (fun r m' => m' = m ∧ r = some (.int (totG v g))) 4 [(0, .ref (ad 3)), (1, .ref (ad b)), (2, .int (toF g.1 (aE v) k)), (3, .int (nI k))] [] m := by
    intro j
    induction j with
    | zero =>
      intro k hk
      obtain rfl : k = nE v := hk
      exact g_X1_total_4 (d := d + 1) hb.1 ⟨fun _ => ⟨rfl, rfl⟩, fun c => absurd (by rw [hE.1]; exact (nI_leI (a := nE v) (b := nE v) (by omega) (by omega)).mpr (Nat.le_refl _)) c⟩
    | succ j ih =>
      intro k hk
      refine g_X1_total_4 (d := d + 1) hb.1 ⟨fun c => absurd (by rw [hE.1] at c; exact (nI_leI (a := nE v) (b := k) (by omega) (by omega)).mp c) (by omega), fun _ => ?_⟩
      rw [hE.2.1, nI_1]
      refine (sumC (d := d) hb h (s := k) (by omega) a4).to ?_
      rintro _ m1 ⟨eq, rfl⟩
      obtain rfl := eq.symm
      exact ⟨_, rfl, ih (k + 1) (by omega)⟩
  exact v_X1_total (d := d + 1) hb.1 (L (nE v) 0 (by omega))
theorem totM (h : HM (nE v) m g) (hE : EM m v) : Ct ad μX12_sumOfAll (d + 1) [.ref (ad 187)] m (fun r m' => m' = m ∧ r = some (.int (totG v g))) := by
  have n8 := hE.2.2.1
  have a4 := hE.2.2.2.1
  have L : ∀ (j k : Nat), k + j = nE v → AW ad E0 μX12_sumOfAll (d + 1) (fun r m' => m' = m ∧ r = some (.int (totG v g))) 4 [(0, .ref (ad 187)), (1, .int (toF g.1 (aE v) k)), (2, .int (nI k))] [] m := by
    intro j
    induction j with
    | zero =>
      intro k hk
      obtain rfl : k = nE v := hk
      exact g_X12_sumOfAll_4 (d := d) ⟨fun _ => ⟨rfl, rfl⟩, fun c => absurd (by rw [hE.1]; exact (nI_leI (a := nE v) (b := nE v) (by omega) (by omega)).mpr (Nat.le_refl _)) c⟩
    | succ j ih =>
      intro k hk
      refine g_X12_sumOfAll_4 (d := d) ⟨fun c => absurd (by rw [hE.1] at c; exact (nI_leI (a := nE v) (b := k) (by omega) (by omega)).mp c) (by omega), fun _ => (sumOf_ok hE.2.1 a4 (by omega)).to ?_⟩
      rintro _ m1 ⟨eq, rfl⟩
      obtain rfl := eq.symm
      rw [nI_1]
      have e : smF (m.1 188) (4 * k) (aE v) = smF g.1 (4 * k) (aE v) := smF_ch _ (fun i h1 h2 => h.1 i (by omega))
      rw [e]
      exact ⟨_, rfl, ih (k + 1) (by omega)⟩
  exact v_X12_sumOfAll (d := d) (L (nE v) 0 (by omega))
end AHC
/-! CALL: pays, with its answers -/
def payA (v : EV) (op : Option PLN) (nr : Nat) (x1 x2 : Int32) (g : GS) : Int32 :=
  match op with
  | none => -1
  | some p => if 0 ≤ x1.toInt ∧ x1.toInt < nE v then (if 0 ≤ x2.toInt ∧ x2.toInt ≤ 50 then (ahG v p x2.toNatClampNeg nr g).2.1 x1.toNatClampNeg - (ahG (setI v x1.toNatClampNeg (!(iE v x1.toNatClampNeg))) p x2.toNatClampNeg nr g).2.1 x1.toNatClampNeg else -1) else -1
def lwV (v : EV) (p : PLN) (n nr : Nat) (g : GS) (q : Nat) : Int32 := totG v (ahG (setL v 0 (nI q)) p n nr g)
def lwA (v : EV) (op : Option PLN) (nr : Nat) (x1 : Int32) (g : GS) : Int32 :=
  match op with
  | none => -1
  | some p => if 0 ≤ x1.toInt ∧ x1.toInt ≤ 50 then nI (bsF (lwV v p x1.toNatClampNeg nr g) 4) else -1
section PAY
variable {ad : Nat → Nat} {d nr : Nat} {m m' m1 m0 : Wm} {g : GS} {v : EV} {H : List GS} {p : PLN} {S : List Nat} {op : Option PLN} {x1 x2 : Int32}
theorem payA_1 (h : ¬ (0 ≤ x1.toInt ∧ x1.toInt < nE v)) : payA v op nr x1 x2 g = -1 := by
  cases op with
  | none => rfl
  | some p => exact if_neg h
theorem payA_2 (h : ¬ (0 ≤ x2.toInt ∧ x2.toInt ≤ 50)) : payA v op nr x1 x2 g = -1 := by
  cases op with
  | none => rfl
  | some p =>
    unfold payA
    dsimp only
    rw [if_neg h]
    split <;> rfl
theorem payA_3 (h : op = none) : payA v op nr x1 x2 g = -1 := by
  subst h
  rfl
theorem payA_4 {s k : Nat} (hs : s < nE v) (h8 : nE v ≤ 8) (hk : k ≤ 50) : payA v (some p) nr (nI s) (nI k) g = (ahG v p k nr g).2.1 s - (ahG (setI v s (!(iE v s))) p k nr g).2.1 s := by
  have ts : (nI s).toInt = s := nI_toInt (by omega)
  have tk : (nI k).toInt = k := nI_toInt (by omega)
  unfold payA
  dsimp only
  rw [if_pos (by omega), if_pos (by omega), nI_clamp (by omega), nI_clamp (by omega)]
theorem ill_xor {il : Nat → Bool} {s : Nat} (h : illC m il) (hs : s < 8) : ∀ j, j < 8 → bt ((m.1 3 5) ^^^ ((1 : Int32) <<< (nI s &&& 31))) j = updB il s (!(il s)) j := fun j hj => by
  rw [b_xor, bt_1shl (by omega) (by omega), h j hj]
  unfold updB
  by_cases q : j = s
  · rw [if_pos q, decide_eq_true q, q]; cases il s <;> rfl
  · rw [if_neg q, decide_eq_false q]; cases il j <;> rfl
theorem e_paysC (w : WT m) (hc : HC 21 m g) (ec : EC m v) (hO : PlO v m op) (h11 : m.1 0 11 = nI nr) (hnr : ∀ p, op = some p → nr < rdP p) : Ct ad μX11_pays (d + 6) [.ref (ad 0), .int x1, .int x2] m (fun r m' => WT m' ∧ Fx (RS [2, 5, 9, 14, 42]) m m' ∧ r = some (.int (payA v op nr x1 x2 g)) ∧ m'.1 3 5 = m.1 3 5) := by
  have n8 := ec.2.2.1
  have nn : payA v op nr x1 x2 g = -1 → WT m ∧ Fx (RS [2, 5, 9, 14, 42]) m m ∧ some (Value.int (-1)) = some (.int (payA v op nr x1 x2 g)) ∧ m.1 3 5 = m.1 3 5 := fun e => ⟨w, Fx.rf, by rw [e], rfl⟩
  refine v_X11_pays (d := d + 5) ((hasC ec.1 n8).to ?_)
  rintro _ m1 ⟨eq, v1, rfl, y1, y2⟩
  obtain rfl := eq.symm
  obtain ⟨P, q1, q2, q3⟩ := hO.c
  refine ⟨v1, rfl, fun q => nn (payA_1 (ninN_of (y1 q))), fun q => ⟨fun c => nn (payA_2 (fun z => ?_)), fun c0 => ⟨fun c => nn (payA_2 (fun z => ?_)), fun c50 => ⟨P, q1, q2, fun ne => ?_, fun e => nn (payA_3 (q3.mp e))⟩⟩⟩⟩
  · have := y_ltr (n := 0) rfl c; omega
  · have := y_ltl (n := 50) rfl c; omega
  have k0 := y_nltr (n := 0) rfl c0
  have k50 := y_nltl (n := 50) rfl c50
  obtain ⟨s, hs, rfl⟩ := (y2 q).of
  obtain ⟨k, hk, rfl⟩ := zn_of k0
  rw [nI_toInt hk] at k50
  cases op with
  | none => exact absurd (q3.mpr rfl) ne
  | some p =>
    obtain ⟨hp, hpC, -⟩ := hO
    have hn := hnr p rfl
    have V : vp_in (nI s) 8 := nat_in (by omega) (by decide)
    rw [payA_4 hs n8 (by omega)]
    refine (aheadC (d := d) hp (n := k) (by omega) hn w hc ec hpC h11).to ?_
    rintro _ m4 ⟨rfl, w4, f4, g4, hg4, h4⟩
    have a35 : m4.1 3 5 = m.1 3 5 := f4.at (nRS (ρ := 42) rfl rfl)
    have f5 : Fx (RS [42]) m4 (uI m4 3 5 ((m4.1 3 5) ^^^ ((1 : Int32) <<< (nI s &&& 31)))) := Fx.rf.i rfl
    have ec4 : EC m4 v := ec.fx f4 rfl
    have ec5 : EC (uI m4 3 5 ((m4.1 3 5) ^^^ ((1 : Int32) <<< (nI s &&& 31)))) (setI v s (!(iE v s))) := ec4.il hs (ill_xor ec4.2.2.2.2.2.1.1 (by omega))
    have w5 : WT (uI m4 3 5 ((m4.1 3 5) ^^^ ((1 : Int32) <<< (nI s &&& 31)))) := w4.n rfl
    refine ⟨rfl, V, (aheadC (d := d) (v := setI v s (!(iE v s))) (p := p) hp (n := k) (by omega) hn w5 ((hc.fx SS_21 f4 rfl).fx SS_21 f5 rfl) ec5 ((hpC.fx f4 rfl rfl).fx f5 rfl rfl) ((f5.at (nRS (ρ := 44) rfl rfl)).trans ((f4.at (nRS (ρ := 44) rfl rfl)).trans h11))).to ?_⟩
    rintro _ m5 ⟨rfl, w6, f6, g6, hg6, h6⟩
    have b35 : m5.1 3 5 = (m.1 3 5) ^^^ ((1 : Int32) <<< (nI s &&& 31)) := by
      rw [f6.at (a := 3) (k := 5) (nRS (ρ := 42) rfl rfl), u_eq, a35]
    have w7 : WT (uI m5 3 5 ((m5.1 3 5) ^^^ ((1 : Int32) <<< (nI s &&& 31)))) := w6.n rfl
    have F : Fx (RS [2, 5, 9, 14, 42]) m (uI m5 3 5 ((m5.1 3 5) ^^^ ((1 : Int32) <<< (nI s &&& 31)))) := (((Fx.tr Fx.rf f4 (RS_sub rfl)).i rfl).tr f6 (RS_sub rfl)).i rfl
    refine ⟨rfl, V, (s_X11_tell_ w7).to ?_⟩
    rintro _ m6 ⟨w8, f8, rfl⟩
    have e1 : m4.1 28 s = (ahG v p k nr g).2.1 s := (h4.2.1 s (by omega)).trans (congrFun hg4.2.1 s)
    have e2 : m6.1 28 s = (ahG (setI v s (!(iE v s))) p k nr g).2.1 s := (f8.at (nRS (ρ := 5) rfl rfl)).trans ((u_ne (by omega)).trans ((h6.2.1 s (by omega)).trans (congrFun hg6.2.1 s)))
    refine ⟨rfl, V, w8, F.tr f8 (RS_sub rfl), ?_, ?_⟩
    · rw [nI_clamp (by omega), e1, e2]
    · rw [f8.at (a := 3) (k := 5) (nRS (ρ := 42) rfl rfl), u_eq, b35, xor2]
theorem pbM {s k nr : Nat} (hp : PlnOK v p) (hk : k ≤ 50) (hnr : nr < rdP p) (w : WT m) (hm : HM (nE v) m g) (um : UnM (nE v) m H) (hl : H.length ≤ 20) (em : EM m v) (hP : PlnM m p) (h12 : m.1 187 12 = nI nr) (hL : HL (nE v) 202 0 m g) (hs : s < nE v) (h8 : nE v ≤ 8) :
    Ct ad μX12_pointsBehind (d + 172) [.ref (ad 187), .int (nI s), .int (nI k)] m (fun r m' => WT m' ∧ Fx (RS [22, 24, 28, 29, 31, 49]) m m' ∧ HM (nE v) m' g ∧ UnM (nE v) m' H ∧ HL (nE v) 202 0 m' g ∧ r = some (.int ((ahG v p k nr g).2.1 s))) := by
  refine v_X12_pointsBehind (d := d + 171) ?_
  rw [h12]
  refine (goRoundsM (d := d) (lk := false) (sv := false) (x3 := 0) (x4 := 0) hp (by decide) (by decide) (by omega) hnr w hm um hl em hP).to ?_
  rintro _ m1 ⟨rfl, w1, f1, hm1, um1, -⟩
  rw [rds_sv] at um1
  have um2 : UnM (nE v) m1 H := um1
  have hL1 : HL (nE v) 202 0 m1 g := hL.fx (ρ := 30) f1 (fun _ => rfl) rfl
  have e1 : (rdsR false false v p k nr (g, H, 0, 0)).1 = ahG v p k nr g := rds_1 _ _ _ _ rfl
  have e2 : m1.1 190 s = (ahG v p k nr g).2.1 s := by
    rw [hm1.2.1 s hs, e1]
  refine ⟨rfl, nat_in (by omega) (by decide), (bringH (x := 0) (na := 57) rfl (by decide) (by decide) w1 hL1 (by decide)).to ?_⟩
  rintro _ m2 ⟨rfl, w2, f2, hm2⟩
  rw [nI_clamp (by omega), e2]
  exact ⟨rfl, w2, f1.tr f2 (RS_sub rfl), hm2, um2.fx f2 rfl, hL1.fx (ρ := 30) f2 (fun _ => rfl) rfl, rfl⟩
/-- what the model's league is behind a call that gave it back -/
def gbQ (B : List Nat) (m : Wm) (g : GS) (v : EV) (H : List GS) (z : Int32) (r : Option Value) (m' : Wm) : Prop := r = some (.int z) ∧ WT m' ∧ Fx (RS B) m m' ∧ HM (nE v) m' g ∧ UnM (nE v) m' H ∧ EM m' v
set_option maxHeartbeats 1000000 in
theorem py_69 {s k nr : Nat} {b : Bool} {z3 : Int32} (hp : PlnOK v p) (hk : k ≤ 50) (hnr : nr < rdP p) (hs : s < nE v) (h8 : nE v ≤ 8) (hb : iE v s = b) (w : WT m) (f : Fx (RS [20, 22, 24, 26, 28, 29, 30, 31, 46, 49]) m1 m) (hm : HM (nE v) m g) (um : UnM (nE v) m H) (hl : H.length ≤ 20) (em : EM m v) (hP : PlnM m p) (h12 : m.1 187 12 = nI nr) (hL : HL (nE v) 202 0 m g) :
    AW ad E0 μX12_pays (d + 173) (gbQ [20, 22, 24, 26, 28, 29, 30, 31, 46, 49] m1 g v H (z3 - (ahG (setI v s (!b)) p k nr g).2.1 s)) 69 [(0, .ref (ad 187)), (1, .int (nI s)), (2, .int (nI k)), (3, .int z3)] [.int (if b = true then 0 else 1), .int (nI s), .ref (ad 189)] m := by
  have V : vp_in (nI s) 8 := nat_in (by omega) (by decide)
  have hv : vp_nar .boolean (if b = true then 0 else 1) = (if (!b) = true then 1 else 0) := by cases b <;> rfl
  refine g_X12_pays_69 (d := d + 172) (ne2 := 8) ly_189 ⟨V, ?_⟩
  rw [nI_clamp (by omega), hv]
  have w7 : WT (uI m 189 s (if (!b) = true then 1 else 0)) := w.n rfl
  have f7 : Fx (RS [46]) m (uI m 189 s (if (!b) = true then 1 else 0)) := Fx.rf.i rfl
  have em7 : EM (uI m 189 s (if (!b) = true then 1 else 0)) (setI v s (!b)) := em.il hs
  refine (pbM (d := d) (v := setI v s (!b)) (p := p) hp hk hnr w7 (hm.fx f7 rfl rfl) (um.fx f7 rfl) hl em7 (hP.fx f7 rfl rfl) ((f7.at (nRS (ρ := 52) rfl rfl)).trans h12) (hL.fx (ρ := 30) f7 (fun _ => rfl) rfl) hs h8).to ?_
  rintro _ m8 ⟨w8, f8, hm8, um8, hL8, rfl⟩
  generalize (ahG (setI v s (!b)) p k nr g).2.1 s = z4
  have e189 : ∀ j, m8.1 189 j = if j = s then (if (!b) = true then 1 else 0) else m.1 189 j := fun j => (f8.at (nRS (ρ := 46) rfl rfl)).trans (by
    by_cases q : j = s
    · rw [q, u_eq, if_pos rfl]
    · rw [u_ne (fun z => q z.2), if_neg q])
  have fin : ∀ y : Int32, vp_nar .boolean y = (if b = true then 1 else 0) → AW ad E0 μX12_pays (d + 173) (gbQ [20, 22, 24, 26, 28, 29, 30, 31, 46, 49] m1 g v H (z3 - z4)) 97 [(0, .ref (ad 187)), (3, .int z3), (4, .int z4)] [.int y, .int (nI s), .ref (ad 189)] m8 := fun y hy => by
    refine g_X12_pays_97 (d := d + 172) (ne2 := 8) ly_189 ⟨V, ?_⟩
    rw [nI_clamp (by omega), hy]
    have w9 : WT (uI (uI m8 189 s (if b = true then 1 else 0)) 187 16 (0 : Int32)) := (w8.n rfl).t rfl (by decide) (by decide)
    have f9 : Fx (RS [26, 46]) m8 (uI (uI m8 189 s (if b = true then 1 else 0)) 187 16 (0 : Int32)) := Fx.i (Fx.i Fx.rf rfl) rfl
    have e16 : ((uI (uI m8 189 s (if b = true then 1 else 0)) 187 16 (0 : Int32)).1 187 16).toInt = 0 := by
      rw [u_eq]
      rfl
    refine (s_X12_tell w9 (by omega)).to ?_
    rintro _ ma ⟨wa, fa, rfl, pa⟩
    have pa' : (ma.1 187 16).toInt = ((uI (uI m8 189 s (if b = true then 1 else 0)) 187 16 (0 : Int32)).1 187 16).toInt + 1 := pa
    refine ⟨rfl, (s_X12_tell wa (by omega)).to ?_⟩
    rintro _ mb ⟨wb, fb, rfl, -⟩
    have F0 : Fx (RS [20, 22, 24, 26, 28, 29, 30, 31, 46, 49]) m mb := ((((Fx.tr Fx.rf f7 (RS_sub rfl)).tr f8 (RS_sub rfl)).tr f9 (RS_sub rfl)).tr fa (RS_sub rfl)).tr fb (RS_sub rfl)
    refine ⟨rfl, rfl, wb, f.tr F0 (fun _ _ h => h), ((hm8.fx f9 rfl rfl).fx fa rfl rfl).fx fb rfl rfl, ((um8.fx f9 rfl).fx fa rfl).fx fb rfl, em.ke F0 rfl (fun k _ => F0.at (nRS (ρ := 47) rfl rfl)) (fun j hj => ?_)⟩
    rw [fb.at (a := 189) (k := j) (nRS (ρ := 46) rfl rfl), fa.at (a := 189) (k := j) (nRS (ρ := 46) rfl rfl), u_ne (by omega)]
    by_cases q : j = s
    · rw [q, u_eq, hb]
    · rw [u_ne (fun z => q z.2), e189 j, if_neg q]
      exact em.2.2.2.2.2.1 j hj
  refine ⟨z4, rfl, V, fun c => fin 0 ?_, fun c => fin 1 ?_⟩
  · rw [e189 s, if_pos rfl] at c
    cases b with
    | false => rfl
    | true => exact absurd rfl c
  · rw [e189 s, if_pos rfl] at c
    cases b with
    | false => exact absurd c (by decide)
    | true => rfl
set_option maxHeartbeats 1000000 in
theorem e_paysM {nr : Nat} (w1 : WT m1) (hm1 : HM (nE v) m1 g) (em1 : EM m1 v) (um1 : UnM (nE v) m1 H) (hl : H.length ≤ 20) (hO : PlO v m1 op) (n2 : m1.1 187 12 = nI nr) (hnr : ∀ p, op = some p → nr < rdP p) : Ct ad μX12_pays (d + 300) [.ref (ad 187), .int x1, .int x2] m1 (gbQ [20, 22, 24, 26, 28, 29, 30, 31, 46, 49] m1 g v H (payA v op nr x1 x2 g)) := by
  have n8 := em1.2.2.1
  have w0 : WT (uI m1 187 17 0) := w1.n rfl
  have f0 : Fx (RS [20]) m1 (uI m1 187 17 0) := Fx.rf.i rfl
  have em0 : EM (uI m1 187 17 0) v := em1.fx f0 rfl
  have hm0 : HM (nE v) (uI m1 187 17 0) g := hm1
  have um0 : UnM (nE v) (uI m1 187 17 0) H := um1.fx f0 rfl
  have hO0 : PlO v (uI m1 187 17 0) op := hO.fx f0 rfl rfl rfl rfl
  have nn : payA v op nr x1 x2 g = -1 → gbQ [20, 22, 24, 26, 28, 29, 30, 31, 46, 49] m1 g v H (payA v op nr x1 x2 g) (some (.int (-1))) (uI m1 187 17 0) := fun e => ⟨by rw [e], w0, Fx.tr Fx.rf f0 (RS_sub rfl), hm0, um0, em0⟩
  refine v_X12_pays (d := d + 299) ((sideM (d := d + 298) em0.1 n8).to ?_)
  rintro _ m2 ⟨eq, v3, rfl, y1, y2⟩
  obtain rfl := eq.symm
  refine ⟨v3, rfl, fun q => nn (payA_1 (ninN_of (y1 q))), fun q => (inM (x := x2) (lo := 0) (hi := 50) rfl rfl).to ?_⟩
  rintro _ m2 ⟨eq, v4, rfl, y3, y4⟩
  obtain rfl := eq.symm
  have z50 : (50 : Int32).toInt = 50 := rfl
  have z0 : (0 : Int32).toInt = 0 := rfl
  refine ⟨v4, rfl, fun q => nn (payA_2 (fun z => y3 q (by omega))), fun q2 => ⟨fun n11 => ?_, fun e11 => nn (payA_3 (hO0.mm.mp e11))⟩⟩
  obtain ⟨s, hs, rfl⟩ := (y2 q).of
  have y5 := y4 q2
  obtain ⟨k, hk, rfl⟩ := zn_of (x := x2) (by omega)
  rw [nI_toInt hk] at y5
  cases op with
  | none => exact absurd (hO0.mm.mpr rfl) n11
  | some p =>
    obtain ⟨hp, -, hpM⟩ := hO
    have hn := hnr p rfl
    rw [payA_4 hs n8 (by omega)]
    refine (layH (x := 0) (na := 57) (reg := 30) rfl (by decide) (by decide) (fun _ => rfl) (fun _ => rfl) w0 hm0 n8 (by decide)).to ?_
    rintro _ m3 ⟨rfl, w3, f3, hL3, -, -⟩
    have h12 : m3.1 187 12 = nI nr := (f3.at (nRS (ρ := 52) rfl rfl)).trans n2
    refine ⟨rfl, (pbM (d := d + 127) (s := s) (k := k) hp (by omega) hn w3 (hm0.fx f3 rfl rfl) (um0.fx f3 rfl) hl (em0.fx f3 rfl) ((hpM.fx f0 rfl rfl).fx f3 rfl rfl) h12 hL3 hs n8).to ?_⟩
    rintro _ m6 ⟨w6, f6, hm6, um6, hL6, rfl⟩
    have F6 : Fx (RS [20, 22, 24, 26, 28, 29, 30, 31, 46, 49]) m1 m6 := ((Fx.tr Fx.rf f0 (RS_sub rfl)).tr f3 (RS_sub rfl)).tr f6 (RS_sub rfl)
    have em6 : EM m6 v := (em0.fx f3 rfl).fx f6 rfl
    have hP6 : PlnM m6 p := ((hpM.fx f0 rfl rfl).fx f3 rfl rfl).fx f6 rfl rfl
    have h126 : m6.1 187 12 = nI nr := (f6.at (nRS (ρ := 52) rfl rfl)).trans h12
    have V : vp_in (nI s) 8 := nat_in (by omega) (by decide)
    refine ⟨_, rfl, V, fun cq => ?_, fun cq => ?_⟩
    · have hb : iE v s = true := by
        cases hb : iE v s with
        | true => rfl
        | false =>
          rw [nI_clamp (by omega), em6.2.2.2.2.2.1 s hs, hb] at cq
          exact absurd rfl cq
      rw [hb]
      exact py_69 (d := d + 127) (b := true) hp (by omega) hn hs n8 hb w6 F6 hm6 um6 hl em6 hP6 h126 hL6
    · have hb : iE v s = false := by
        cases hb : iE v s with
        | false => rfl
        | true =>
          rw [nI_clamp (by omega), em6.2.2.2.2.2.1 s hs, hb] at cq
          exact absurd cq (by decide)
      rw [hb]
      exact py_69 (d := d + 127) (b := false) hp (by omega) hn hs n8 hb w6 F6 hm6 um6 hl em6 hP6 h126 hL6
/-- where the plan is, beside the plan -/
theorem nx_of (nx : NxR m) (hO : PlO v m op) : ∃ nr, m.1 0 11 = nI nr ∧ m.1 187 12 = nI nr ∧ ∀ p, op = some p → nr < rdP p := by
  obtain ⟨nr, R, n1, n2, n3, n4, n5⟩ := nx
  refine ⟨nr, n1, n2, fun p hp => ?_⟩
  subst hp
  obtain ⟨hp, -, hpM⟩ := hO
  have h1 := hp.1
  have h2 := hp.2.1
  have : rdP p = R := (nI_eq (a := rdP p) (b := R) (by omega) (by omega)).mp (hpM.1.symm.trans n3)
  omega
theorem og_pays (c : Nat) (x1 x2 : Int32) : Both ad d μX11_pays μX12_pays [.int x1, .int x2] (InvK (KX KG c)) (InvK (KX KG (c + 1))) := fun m I => by
  obtain ⟨w, I1, ⟨g, v, H, kd⟩, kb⟩ := I
  obtain ⟨hc, hm, ec, em, uc, um, zb, zh, kp, nx⟩ := kd
  obtain ⟨op, hO⟩ := plO_of kb.1 ec
  obtain ⟨nr, n1, n2, hnr⟩ := nx_of nx hO
  refine (e_paysC (d := d + 294) (x1 := x1) (x2 := x2) w hc ec hO n1 hnr).to ?_
  rintro _ m1 ⟨w1, f1, rfl, h35⟩
  have ec1 : EC m1 v := ec.ke f1 rfl (fun k _ => f1.at (nRS (ρ := 43) rfl rfl)) h35
  refine ⟨_, rfl, (e_paysM (d := d) (x1 := x1) (x2 := x2) w1 (hm.fx f1 rfl rfl) (em.fx f1 rfl) (um.fx f1 rfl) uc.1 (hO.fx f1 rfl rfl rfl rfl) ((f1.at (nRS (ρ := 52) rfl rfl)).trans n2) hnr).to ?_⟩
  rintro r m2 ⟨hz, w2, f2, hm2, um2, em2⟩
  exact ⟨hz, w2, I1.f2 f1 f2 rfl rfl, ⟨g, v, H, (hc.fx SS_21 f1 rfl).fx SS_21 f2 rfl, hm2, ec1.fx f2 rfl, em2, (uc.fx f1 rfl rfl).fx f2 rfl rfl, um2, zb, zh, (kp.fx f1 rfl rfl).fx f2 rfl rfl, (nx.fx f1 rfl rfl rfl).fx f2 rfl rfl rfl⟩, KB.fd c f1 f2 kb rfl rfl⟩
end PAY
/-! CALL: laws, with its answers -/
section LWS
variable {ad : Nat → Nat} {d nr : Nat} {m m' m1 m0 : Wm} {g : GS} {v : EV} {H : List GS} {p : PLN} {S : List Nat} {op : Option PLN} {x1 : Int32}
theorem cmp_le {x y : Int32} : lg_cmp x.toInt64 y.toInt64 ≤ 0 ↔ x ≤ y := by
  have z0 : (0 : Int32).toInt = 0 := rfl
  have k : 0 < lg_cmp x.toInt64 y.toInt64 ↔ y < x := by rw [lg_cmp_gt, fa_wide_lt]
  constructor
  · intro h
    have h1 := z_le h
    exact (fa_le _ _).mpr (Int.not_lt.mp (fun q => by have := z_lt (k.mpr ((fa_lt _ _).mpr q)); omega))
  · intro h
    have h1 := z_le h
    exact (fa_le _ _).mpr (Int.not_lt.mp (fun q => by have := z_lt (k.mp ((fa_lt _ _).mpr q)); omega))
theorem EC.l0 {y x : Int32} (h : EC m (setL v 0 y)) : EC (uI m 4 0 x) (setL v 0 x) := by
  obtain ⟨q1, q2, q3, q4, q5, q6, q7⟩ := h
  have f : Fx (RS [43]) m (uI m 4 0 x) := Fx.rf.i rfl
  refine ⟨q1, q2, q3, q4, fun k hk => ?_, q6, q7.fx f rfl⟩
  have e := q5 k hk
  show (uI m 4 0 x).1 4 k = upd (lE v) 0 x k
  have e' : m.1 4 k = upd (lE v) 0 y k := e
  rw [upd_at] at e' ⊢
  by_cases q : k = 0
  · rw [if_pos q, q, u_eq]
  · rw [if_neg q, u_ne (fun z => q z.2), e', if_neg q]
theorem EC.lz (h : EC m (setL v 0 (lE v 0))) : EC m v := by
  obtain ⟨q1, q2, q3, q4, q5, q6, q7⟩ := h
  refine ⟨q1, q2, q3, q4, fun k hk => ?_, q6, q7⟩
  have e' : m.1 4 k = upd (lE v) 0 (lE v 0) k := q5 k hk
  rw [e', upd_at]
  by_cases q : k = 0
  · rw [if_pos q, q]
  · rw [if_neg q]
theorem EC.la (h : EC m v) : EC m (setL v 0 (lE v 0)) := by
  obtain ⟨q1, q2, q3, q4, q5, q6, q7⟩ := h
  refine ⟨q1, q2, q3, q4, fun k hk => ?_, q6, q7⟩
  show m.1 4 k = upd (lE v) 0 (lE v 0) k
  rw [q5 k hk, upd_at]
  by_cases q : k = 0
  · rw [if_pos q, q]
  · rw [if_neg q]
theorem lwA_2 (h : ¬ (0 ≤ x1.toInt ∧ x1.toInt ≤ 50)) : lwA v op nr x1 g = -1 := by
  cases op with
  | none => rfl
  | some p => exact if_neg h
theorem lwA_3 (h : op = none) : lwA v op nr x1 g = -1 := by
  subst h
  rfl
theorem lwA_4 {k : Nat} (hk : k ≤ 50) : lwA v (some p) nr (nI k) g = nI (bsF (lwV v p k nr g) 4) := by
  have tk : (nI k).toInt = k := nI_toInt (by omega)
  unfold lwA
  dsimp only
  rw [if_pos (by omega), nI_clamp (by omega)]
def lzQ (v : EV) (m0 : Wm) (z : Int32) (r : Option Value) (m' : Wm) : Prop := WT m' ∧ Fx (RS [2, 5, 9, 14, 43]) m0 m' ∧ r = some (.int z) ∧ EC m' v
set_option maxHeartbeats 1000000 in
theorem lc_37 {k : Nat} (hp : PlnOK v p) (hk : k ≤ 50) (hnr : nr < rdP p) : ∀ (j q : Nat) (m1 : Wm) (y : Int32), q + j = 4 → WT m1 → Fx (RS [2, 5, 9, 14, 43]) m0 m1 → HC 21 m1 g → EC m1 (setL v 0 y) → PlnC m1 p → m1.1 0 11 = nI nr → (∀ i, i < q → m1.2.1 150 i = (lwV v p k nr g i).toInt64) →
    AW ad E0 μX11_laws (d + 6) (lzQ v m0 (nI (bsF (lwV v p k nr g) 4))) 37 [(0, .ref (ad 0)), (1, .int (nI k)), (2, .int (lE v 0)), (3, .int (nI (bsF (lwV v p k nr g) q))), (4, .int (nI q))] [] m1 := by
  have e00 : (0 : Int32).toNatClampNeg = 0 := rfl
  intro j
  induction j with
  | zero =>
    intro q m1 y hq w1 f1 hc ec hP h11 hr
    obtain rfl : q = 4 := hq
    refine g_X11_laws_37 (d := d + 5) ⟨fun _ => ?_, fun c => absurd ((le_l 4 4 rfl (by decide) (by omega)).mpr (Nat.le_refl _)) c⟩
    rw [e00]
    have f2 : Fx (RS [9]) (uI m1 4 0 (lE v 0)) (uI (uI m1 4 0 (lE v 0)) 0 18 (4 : Int32)) := Fx.rf.i rfl
    exact ⟨(w1.n rfl).t rfl (by decide) (by decide), (f1.i rfl).i rfl, rfl, (EC.fx (EC.lz ec.l0) f2 rfl)⟩
  | succ j ih =>
    intro q m1 y hq w1 f1 hc ec hP h11 hr
    refine g_X11_laws_37 (d := d + 5) ⟨fun c => absurd ((le_l 4 4 rfl (by decide) (by omega)).mp c) (by omega), fun _ => ?_⟩
    rw [e00]
    have f7 : Fx (RS [43]) m1 (uI m1 4 0 (nI q)) := Fx.rf.i rfl
    have w7 : WT (uI m1 4 0 (nI q)) := w1.n rfl
    have ec7 : EC (uI m1 4 0 (nI q)) (setL v 0 (nI q)) := ec.l0
    refine (aheadC (d := d) (v := setL v 0 (nI q)) (p := p) hp (n := k) (by omega) hnr w7 (hc.fx SS_21 f7 rfl) ec7 (hP.fx f7 rfl rfl) ((f7.at (nRS (ρ := 44) rfl rfl)).trans h11)).to ?_
    rintro _ m2 ⟨rfl, w2, f2, g', hg, h26⟩
    have ec2 := ec7.fx f2 rfl
    refine ⟨rfl, (totC (d := d + 3) SS_26 h26 ec2).to ?_⟩
    rintro _ m3 ⟨eq, rfl⟩
    obtain rfl := eq.symm
    have e : totG (setL v 0 (nI q)) g' = lwV v p k nr g q := totG_E hg
    have hc2 := (hc.fx SS_21 f7 rfl).fx SS_21 f2 rfl
    have hP2 := (hP.fx f7 rfl rfl).fx f2 rfl rfl
    have h112 : m2.1 0 11 = nI nr := (f2.at (nRS (ρ := 44) rfl rfl)).trans ((f7.at (nRS (ρ := 44) rfl rfl)).trans h11)
    have F2 : Fx (RS [2, 5, 9, 14, 43]) m0 m2 := (f1.i rfl).tr f2 (RS_sub rfl)
    have hr2 : ∀ i, i < q → m2.2.1 150 i = (lwV v p k nr g i).toInt64 := fun i hi => (f2 150 i (nRS (ρ := 9) rfl rfl)).2.1.trans (hr i hi)
    have hb : bsF (lwV v p k nr g) q ≤ q := by
      by_cases h0 : q = 0
      · subst h0; exact Nat.le_refl _
      · exact Nat.le_of_lt (bsF_lt (by omega) q (Nat.le_refl _))
    rw [e, nI_1, nI_clamp (by omega), nI_clamp (by omega)]
    generalize hF : lwV v p k nr g = F at hr2 hb ih ⊢
    have e150 : ∀ i, i ≤ q → (uL m2 150 q (F q).toInt64).2.1 150 i = (F i).toInt64 := fun i hi => by
      by_cases z : i = q
      · rw [z]; exact if_pos ⟨rfl, rfl⟩
      · exact (if_neg (fun y => z y.2)).trans (hr2 i (by omega))
    have fL : Fx (RS [9]) m2 (uL m2 150 q (F q).toInt64) := Fx.rf.l rfl
    have N := ih (q + 1) (uL m2 150 q (F q).toInt64) (nI q) (by omega) w2.l (F2.l rfl) (hc2.fx SS_21 fL rfl) (ec2.fx fL rfl) (hP2.fx fL rfl rfl) ((fL.at (nRS (ρ := 44) rfl rfl)).trans h112) (fun i hi => e150 i (by omega))
    refine ⟨_, rfl, nat_in (by omega) (by decide), nat_in (by omega) (by decide), nat_in (by omega) (by decide), ?_⟩
    rw [e150 q (Nat.le_refl _), e150 _ hb]
    refine ⟨fun c => ?_, fun c => ?_⟩
    · rw [bsF_p (f := F) (cmp_le.mp c)] at N
      exact N
    · rw [bsF_n (f := F) (fun z => c (cmp_le.mpr z))] at N
      exact N
theorem e_lawsV (w : WT m) (hc : HC 21 m g) (ec : EC m v) (hO : PlO v m op) (h11 : m.1 0 11 = nI nr) (hnr : ∀ p, op = some p → nr < rdP p) : Ct ad μX11_laws (d + 6) [.ref (ad 0), .int x1] m (lzQ v m (lwA v op nr x1 g)) := by
  have e00 : (0 : Int32).toNatClampNeg = 0 := rfl
  have nn : lwA v op nr x1 g = -1 → lzQ v m (lwA v op nr x1 g) (some (.int (-1))) m := fun e => ⟨w, Fx.rf, by rw [e], ec⟩
  obtain ⟨P, q1, q2, q3⟩ := hO.c
  refine v_X11_laws (d := d + 5) ⟨fun c => nn (lwA_2 (fun z => ?_)), fun c0 => ⟨fun c => nn (lwA_2 (fun z => ?_)), fun c50 => ⟨P, q1, q2, fun ne => ?_, fun e => nn (lwA_3 (q3.mp e))⟩⟩⟩
  · have := y_ltr (n := 0) rfl c; omega
  · have := y_ltl (n := 50) rfl c; omega
  have k0 := y_nltr (n := 0) rfl c0
  have k50 := y_nltl (n := 50) rfl c50
  obtain ⟨k, hk, rfl⟩ := zn_of k0
  rw [nI_toInt hk] at k50
  cases op with
  | none => exact absurd (q3.mpr rfl) ne
  | some p =>
    obtain ⟨hp, hpC, -⟩ := hO
    rw [e00, ec.2.2.2.2.1 0 (by decide), lwA_4 (by omega)]
    exact lc_37 (d := d) (m0 := m) hp (by omega) (hnr p rfl) 4 0 m (lE v 0) rfl w Fx.rf hc ec.la hpC h11 (fun i hi => absurd hi (Nat.not_lt_zero i))
set_option maxHeartbeats 1000000 in
theorem lw_55 {k : Nat} (hp : PlnOK v p) (hk : k ≤ 50) (hnr : nr < rdP p) (h8 : nE v ≤ 8) (hl : H.length ≤ 20) : ∀ (j q : Nat) (m1 : Wm) (y x3 x4 : Int32), q + j = 4 → (1 ≤ q → x3 = nI (bsF (lwV v p k nr g) q) ∧ x4 = lwV v p k nr g (bsF (lwV v p k nr g) q)) → WT m1 → Fx (RS [20, 22, 24, 26, 28, 29, 30, 31, 47, 49]) m0 m1 → HM (nE v) m1 g → UnM (nE v) m1 H → HL (nE v) 202 0 m1 g → EM m1 (setL v 0 y) → PlnM m1 p → m1.1 187 12 = nI nr → (m1.1 187 16).toInt = q →
    AW ad E0 μX12_laws (d + 172) (gbQ [20, 22, 24, 26, 28, 29, 30, 31, 47, 49] m0 g v H (nI (bsF (lwV v p k nr g) 4))) 55 [(0, .ref (ad 187)), (1, .int (nI k)), (2, .int (lE v 0)), (3, .int x3), (4, .int x4), (5, .int (nI q))] [] m1 := by
  have e00 : (0 : Int32).toNatClampNeg = 0 := rfl
  intro j
  induction j with
  | zero =>
    intro q m1 y x3 x4 hq hx w1 f1 hm um hL em hP h12 h16
    obtain rfl : q = 4 := hq
    refine g_X12_laws_55 (d := d + 171) ⟨fun _ => ?_, fun c => absurd ((le_l 4 4 rfl (by decide) (by omega)).mpr (Nat.le_refl _)) c⟩
    rw [e00]
    have f2 : Fx (RS [47]) m1 (uI m1 193 0 (lE v 0)) := Fx.rf.i rfl
    exact ⟨by rw [(hx (by decide)).1], w1.n rfl, f1.tr f2 (RS_sub rfl), hm.fx f2 rfl rfl, um.fx f2 rfl, em.l0.lz⟩
  | succ j ih =>
    intro q m1 y x3 x4 hq hx w1 f1 hm um hL em hP h12 h16
    refine g_X12_laws_55 (d := d + 171) ⟨fun c => absurd ((le_l 4 4 rfl (by decide) (by omega)).mp c) (by omega), fun _ => ?_⟩
    rw [e00]
    have f2 : Fx (RS [47]) m1 (uI m1 193 0 (nI q)) := Fx.rf.i rfl
    have w2 : WT (uI m1 193 0 (nI q)) := w1.n rfl
    have em2 : EM (uI m1 193 0 (nI q)) (setL v 0 (nI q)) := em.l0
    have hm2 := hm.fx f2 rfl rfl
    have um2 := um.fx f2 rfl
    have hL2 : HL (nE v) 202 0 (uI m1 193 0 (nI q)) g := hL.fx (ρ := 30) f2 (fun _ => rfl) rfl
    have hP2 := hP.fx f2 rfl rfl
    have h122 : (uI m1 193 0 (nI q)).1 187 12 = nI nr := h12
    have h162 : ((uI m1 193 0 (nI q)).1 187 16).toInt = q := h16
    rw [h122]
    have F2 := f1.tr f2 (RS_sub (l2 := [20, 22, 24, 26, 28, 29, 30, 31, 47, 49]) rfl)
    generalize uI m1 193 0 (nI q) = m2 at w2 em2 hm2 um2 hL2 hP2 h122 h162 F2 ⊢
    refine (goRoundsM (d := d) (v := setL v 0 (nI q)) (p := p) (lk := false) (sv := false) (x3 := 0) (x4 := 0) hp (by decide) (by decide) (by omega) hnr w2 hm2 um2 hl em2 hP2).to ?_
    rintro _ m3 ⟨rfl, w3, f3, hm3, um3, -⟩
    rw [rds_sv] at um3
    have um3' : UnM (nE v) m3 H := um3
    refine ⟨rfl, (totM (d := d + 170) (v := setL v 0 (nI q)) hm3 (em2.fx f3 rfl)).to ?_⟩
    rintro _ m4 ⟨eq, rfl⟩
    obtain rfl := eq.symm
    have e1 : (rdsR false false (setL v 0 (nI q)) p k nr (g, H, 0, 0)).1 = ahG (setL v 0 (nI q)) p k nr g := rds_1 _ _ _ _ rfl
    have e2 : totG (setL v 0 (nI q)) (rdsR false false (setL v 0 (nI q)) p k nr (g, H, 0, 0)).1 = lwV v p k nr g q := by
      rw [e1]
      rfl
    rw [e2]
    have hL4 : HL (nE v) 202 0 m3 g := hL2.fx (ρ := 30) f3 (fun _ => rfl) rfl
    refine ⟨_, rfl, (bringH (x := 0) (na := 57) rfl (by decide) (by decide) w3 hL4 (by decide)).to ?_⟩
    rintro _ m5 ⟨rfl, w5, f5, hm5⟩
    have e16 : (m5.1 187 16).toInt = q := by
      rw [f5.at (a := 187) (k := 16) (nRS (ρ := 26) rfl rfl), f3.at (a := 187) (k := 16) (nRS (ρ := 26) rfl rfl)]
      exact h162
    refine ⟨rfl, (s_X12_tell w5 (by omega)).to ?_⟩
    rintro _ m6 ⟨w6, f6, rfl, p6⟩
    have p6' : (m6.1 187 16).toInt = (m5.1 187 16).toInt + 1 := p6
    have F6 := ((F2.tr f3 (RS_sub rfl)).tr f5 (RS_sub rfl)).tr f6 (RS_sub rfl)
    have N : ∀ y3 y4 : Int32, y3 = nI (bsF (lwV v p k nr g) (q + 1)) → y4 = lwV v p k nr g (bsF (lwV v p k nr g) (q + 1)) → AW ad E0 μX12_laws (d + 172) (gbQ [20, 22, 24, 26, 28, 29, 30, 31, 47, 49] m0 g v H (nI (bsF (lwV v p k nr g) 4))) 55 [(0, .ref (ad 187)), (1, .int (nI k)), (2, .int (lE v 0)), (3, .int y3), (4, .int y4), (5, .int (nI (q + 1)))] [] m6 := fun y3 y4 h3 h4 => by
      refine ih (q + 1) m6 (nI q) y3 y4 (by omega) (fun _ => ⟨h3, h4⟩) w6 F6 (hm5.fx f6 rfl rfl) ((um3'.fx f5 rfl).fx f6 rfl) ((hL4.fx (ρ := 30) f5 (fun _ => rfl) rfl).fx (ρ := 30) f6 (fun _ => rfl) rfl) (((em2.fx f3 rfl).fx f5 rfl).fx f6 rfl) (((hP2.fx f3 rfl rfl).fx f5 rfl rfl).fx f6 rfl rfl) ?_ (by omega)
      rw [f6.at (a := 187) (k := 12) (nRS (ρ := 52) rfl rfl), f5.at (a := 187) (k := 12) (nRS (ρ := 52) rfl rfl), f3.at (a := 187) (k := 12) (nRS (ρ := 52) rfl rfl)]
      exact h122
    rw [nI_1]
    refine ⟨rfl, fun c => ?_, fun c => ?_⟩
    · have c0 := (l_le 0 0 rfl (by decide) (by omega)).mp c
      obtain rfl : q = 0 := by omega
      exact N _ _ (by rw [bsF_1]) (by rw [bsF_1])
    · have c0 : 1 ≤ q := Nat.pos_of_ne_zero (fun z => c ((l_le 0 0 rfl (by decide) (by omega)).mpr (by omega)))
      obtain ⟨h3, h4⟩ := hx c0
      rw [h3, h4]
      refine ⟨fun c2 => ?_, fun c2 => ?_⟩
      · have c3 : ¬ lwV v p k nr g q ≤ lwV v p k nr g (bsF (lwV v p k nr g) q) := fun z => by
          have := z_lt c2
          have := z_le z
          omega
        exact N _ _ (by rw [bsF_n c3]) (by rw [bsF_n c3])
      · have c3 : lwV v p k nr g q ≤ lwV v p k nr g (bsF (lwV v p k nr g) q) := (fa_le _ _).mpr (z_nlt c2)
        exact N _ _ (by rw [bsF_p c3]) (by rw [bsF_p c3])
set_option maxHeartbeats 1000000 in
theorem e_lawsW (w1 : WT m1) (hm1 : HM (nE v) m1 g) (em1 : EM m1 v) (um1 : UnM (nE v) m1 H) (hl : H.length ≤ 20) (hO : PlO v m1 op) (n2 : m1.1 187 12 = nI nr) (hnr : ∀ p, op = some p → nr < rdP p) : Ct ad μX12_laws (d + 300) [.ref (ad 187), .int x1] m1 (gbQ [20, 22, 24, 26, 28, 29, 30, 31, 47, 49] m1 g v H (lwA v op nr x1 g)) := by
  have n8 := em1.2.2.1
  have e00 : (0 : Int32).toNatClampNeg = 0 := rfl
  have w0 : WT (uI m1 187 17 0) := w1.n rfl
  have f0 : Fx (RS [20]) m1 (uI m1 187 17 0) := Fx.rf.i rfl
  have em0 : EM (uI m1 187 17 0) v := em1.fx f0 rfl
  have hm0 : HM (nE v) (uI m1 187 17 0) g := hm1
  have um0 : UnM (nE v) (uI m1 187 17 0) H := um1.fx f0 rfl
  have hO0 : PlO v (uI m1 187 17 0) op := hO.fx f0 rfl rfl rfl rfl
  have nn : lwA v op nr x1 g = -1 → gbQ [20, 22, 24, 26, 28, 29, 30, 31, 47, 49] m1 g v H (lwA v op nr x1 g) (some (.int (-1))) (uI m1 187 17 0) := fun e => ⟨by rw [e], w0, Fx.tr Fx.rf f0 (RS_sub rfl), hm0, um0, em0⟩
  have z50 : (50 : Int32).toInt = 50 := rfl
  have z0 : (0 : Int32).toInt = 0 := rfl
  refine v_X12_laws (d := d + 299) ((inM (x := x1) (lo := 0) (hi := 50) rfl rfl).to ?_)
  rintro _ m2 ⟨eq, v4, rfl, y3, y4⟩
  obtain rfl := eq.symm
  refine ⟨v4, rfl, fun q => nn (lwA_2 (fun z => y3 q (by omega))), fun q2 => ⟨fun n11 => ?_, fun e11 => nn (lwA_3 (hO0.mm.mp e11))⟩⟩
  have y5 := y4 q2
  obtain ⟨k, hk, rfl⟩ := zn_of (x := x1) (by omega)
  rw [nI_toInt hk] at y5
  cases op with
  | none => exact absurd (hO0.mm.mpr rfl) n11
  | some p =>
    obtain ⟨hp, -, hpM⟩ := hO
    have e193 : (uI m1 187 17 0).1 193 0 = lE v 0 := em0.2.2.2.2.1 0 (by decide)
    rw [e00, e193, lwA_4 (by omega)]
    refine (layH (x := 0) (na := 57) (reg := 30) rfl (by decide) (by decide) (fun _ => rfl) (fun _ => rfl) w0 hm0 n8 (by decide)).to ?_
    rintro _ m3 ⟨rfl, w3, f3, hL3, -, -⟩
    have w4 : WT (uI m3 187 16 (0 : Int32)) := w3.t rfl (by decide) (by decide)
    have f4 : Fx (RS [26]) m3 (uI m3 187 16 (0 : Int32)) := Fx.rf.i rfl
    have F4 : Fx (RS [20, 22, 24, 26, 28, 29, 30, 31, 47, 49]) m1 (uI m3 187 16 (0 : Int32)) := ((Fx.tr Fx.rf f0 (RS_sub rfl)).tr f3 (RS_sub rfl)).tr f4 (RS_sub rfl)
    refine ⟨rfl, lw_55 (d := d + 128) (m0 := m1) (k := k) (nr := nr) hp (by omega) (hnr p rfl) n8 hl 4 0 _ (lE v 0) 0 0 rfl (fun z => absurd z (by decide)) w4 F4 ((hm0.fx f3 rfl rfl).fx f4 rfl rfl) ((um0.fx f3 rfl).fx f4 rfl) (hL3.fx (ρ := 30) f4 (fun _ => rfl) rfl) ((em0.fx f3 rfl).fx f4 rfl).la (((hpM.fx f0 rfl rfl).fx f3 rfl rfl).fx f4 rfl rfl) ((f4.at (nRS (ρ := 52) rfl rfl)).trans ((f3.at (nRS (ρ := 52) rfl rfl)).trans n2)) ?_⟩
    rw [u_eq]
    rfl
theorem og_laws (c : Nat) (x1 : Int32) : Both ad d μX11_laws μX12_laws [.int x1] (InvK (KX KG c)) (InvK (KX KG (c + 1))) := fun m I => by
  obtain ⟨w, I1, ⟨g, v, H, kd⟩, kb⟩ := I
  obtain ⟨hc, hm, ec, em, uc, um, zb, zh, kp, nx⟩ := kd
  obtain ⟨pl, lw, kq⟩ := kb
  obtain ⟨op, hO⟩ := plO_of pl ec
  obtain ⟨nr, n1, n2, hnr⟩ := nx_of nx hO
  refine (e_lawsV (d := d + 294) (x1 := x1) w hc ec hO n1 hnr).to ?_
  rintro _ m1 ⟨w1, f1, rfl, ec1⟩
  refine ⟨_, rfl, (e_lawsW (d := d) (x1 := x1) w1 (hm.fx f1 rfl rfl) (em.fx f1 rfl) (um.fx f1 rfl) uc.1 (hO.fx f1 rfl rfl rfl rfl) ((f1.at (nRS (ρ := 52) rfl rfl)).trans n2) hnr).to ?_⟩
  rintro r m2 ⟨hz, w2, f2, hm2, um2, em2⟩
  have ec2 := ec1.fx f2 rfl
  exact ⟨hz, w2, I1.f2 f1 f2 rfl rfl, ⟨g, v, H, (hc.fx SS_21 f1 rfl).fx SS_21 f2 rfl, hm2, ec2, em2, (uc.fx f1 rfl rfl).fx f2 rfl rfl, um2, zb, zh, (kp.fx f1 rfl rfl).fx f2 rfl rfl, (nx.fx f1 rfl rfl rfl).fx f2 rfl rfl rfl⟩, (pl.fx f1 rfl rfl rfl rfl rfl).fx f2 rfl rfl rfl rfl rfl, fun k hk => (ec2.2.2.2.2.1 k hk).trans (em2.2.2.2.2.1 k hk).symm, ((kq.fx f1 rfl rfl rfl).fx f2 rfl rfl rfl).up⟩
end LWS
end
section
/-! ALL CALLS BUT of AND row, FROM THE INVARIANT TO THE INVARIANT -/
section OPB
variable {ad : Nat → Nat} {d : Nat} {K K' : Wm → Prop}
set_option maxHeartbeats 1000000 in
theorem os_table (hK : KD K K') : Both ad d μX11_table μX12_table [] (InvK K) (InvK K') := fun m I => by
  have hS : (m.1 3 3).toInt = (m.1 187 1).toInt := congrArg _ I.2.1.2.2.1
  have hN : (m.1 0 15).toInt = (m.1 187 52).toInt := congrArg _ I.2.1.2.2.2.2
  refine (s_X11_table I.1).to ?_
  rintro _ m1 ⟨w1, f1, v, rfl, p1⟩
  have g1 : (m1.1 187 1).toInt = (m.1 187 1).toInt := congrArg _ (f1.at (nRS (ρ := 23) rfl rfl))
  have g52 : (m1.1 187 52).toInt = (m.1 187 52).toInt := congrArg _ (f1.at (nRS (ρ := 39) rfl rfl))
  refine ⟨v, rfl, (s_X12_table w1).to ?_⟩
  rintro _ m2 ⟨w2, f2, v2, rfl, p2⟩
  exact ⟨congrArg (fun z => some (Value.int z)) ((fa_eq _ _).mpr (by omega)), w2, I.2.1.f2 f1 f2 rfl rfl, hK f1 f2 I.2.2 rfl rfl⟩
set_option maxHeartbeats 1000000 in
theorem os_seen (hK : KD K K') (a b c : Int32) : Both ad d μX11_seen μX12_seen [.int a, .int b, .int c] (InvK K) (InvK K') := fun m I => by
  have hS : (m.1 3 3).toInt = (m.1 187 1).toInt := congrArg _ I.2.1.2.2.1
  have hN : (m.1 0 15).toInt = (m.1 187 52).toInt := congrArg _ I.2.1.2.2.2.2
  refine (s_X11_seen I.1).to ?_
  rintro _ m1 ⟨w1, f1, v, rfl, p1⟩
  have g1 : (m1.1 187 1).toInt = (m.1 187 1).toInt := congrArg _ (f1.at (nRS (ρ := 23) rfl rfl))
  have g52 : (m1.1 187 52).toInt = (m.1 187 52).toInt := congrArg _ (f1.at (nRS (ρ := 39) rfl rfl))
  refine ⟨v, rfl, (s_X12_seen w1).to ?_⟩
  rintro _ m2 ⟨w2, f2, v2, rfl, p2⟩
  have h33 : m2.1 3 3 = m2.1 187 1 := by
    rw [f2.at (a := 3) (k := 3) (nRS (ρ := 41) rfl rfl), f2.at (a := 187) (k := 1) (nRS (ρ := 23) rfl rfl), f1.at (a := 3) (k := 3) (nRS (ρ := 41) rfl rfl), f1.at (a := 187) (k := 1) (nRS (ρ := 23) rfl rfl)]; exact I.2.1.2.2.1
  have h34 : m2.1 3 4 = m2.1 187 0 := by
    rw [f2.at (a := 3) (k := 4) (nRS (ρ := 41) rfl rfl), f2.at (a := 187) (k := 0) (nRS (ρ := 23) rfl rfl), f1.at (a := 3) (k := 4) (nRS (ρ := 41) rfl rfl), f1.at (a := 187) (k := 0) (nRS (ρ := 23) rfl rfl)]; exact I.2.1.2.2.2.1
  have g15 : (m2.1 0 15).toInt = (m1.1 0 15).toInt := congrArg _ (f2.at (nRS (ρ := 8) rfl rfl))
  exact ⟨congrArg (fun z => some (Value.int z)) ((fa_eq _ _).mpr (by omega)), w2, ⟨(I.2.1.1.fx f1 rfl).fx f2 rfl, (I.2.1.2.1.fx f1 rfl rfl).fx f2 rfl rfl, h33, h34, (fa_eq _ _).mpr (by omega)⟩, hK f1 f2 I.2.2 rfl rfl⟩
theorem ow_found (hK : KD K K') : BothW ad d μX11_found μX12_found [] (InvK K) (InvK K') := fun m I => by
  refine (s_X11_found I.1).to ?_
  rintro _ m1 ⟨w1, f1, v, rfl⟩
  refine ⟨⟨_, rfl⟩, (s_X12_found w1).to ?_⟩
  rintro _ m2 ⟨w2, f2, v2, rfl⟩
  exact ⟨⟨_, rfl⟩, w2, I.2.1.f2 f1 f2 rfl rfl, hK f1 f2 I.2.2 rfl rfl⟩
theorem ow_count (hK : KD K K') (a : Int32) : BothW ad d μX11_count μX12_count [.int a] (InvK K) (InvK K') := fun m I => by
  refine (s_X11_count I.1).to ?_
  rintro _ m1 ⟨w1, f1, v, rfl⟩
  refine ⟨⟨_, rfl⟩, (s_X12_count w1).to ?_⟩
  rintro _ m2 ⟨w2, f2, v2, rfl⟩
  exact ⟨⟨_, rfl⟩, w2, I.2.1.f2 f1 f2 rfl rfl, hK f1 f2 I.2.2 rfl rfl⟩
theorem rg_or {m1 m2 : Wm} (h : RG m1) (q : (m2.1 187 10 = m1.1 187 10 ∧ m2.1 187 11 = m1.1 187 11) ∨ (m2.1 187 11).toInt = 0 ∨ 1 ≤ (m2.1 187 10).toInt) : RG m2 := by
  unfold RG at h ⊢
  rcases q with ⟨q1, q2⟩ | q | q
  · rw [q1, q2]; exact h
  · exact Or.inl q
  · exact Or.inr q
end OPB
end
section
theorem dL_of_0 : decode cL_of 0 = .ok (.aload_n 3, 1) := dr_45 (by decide +kernel)
theorem dL_of_1 : decode cL_of 1 = .ok (.iconst 0, 1) := dr_3 (by decide +kernel)
theorem dL_of_2 : decode cL_of 2 = .ok (.aload_n 0, 1) := dr_42 (by decide +kernel)
theorem dL_of_3 : decode cL_of 3 = .ok (.iload_n 1, 1) := dr_27 (by decide +kernel)
theorem dL_of_4 : decode cL_of 4 = .ok (.iload_n 2, 1) := dr_28 (by decide +kernel)
theorem dL_of_5 : decode cL_of 5 = .ok (.invokevirtual 7, 3) := dr_182 (by decide +kernel)
theorem dL_of_8 : decode cL_of 8 = .ok (.i2l, 1) := dr_133 (by decide +kernel)
theorem dL_of_9 : decode cL_of 9 = .ok (.lastore, 1) := dr_80 (by decide +kernel)
theorem dL_of_10 : decode cL_of 10 = .ok (.goto 7, 3) := dr_167 (by decide +kernel)
theorem dL_of_13 : decode cL_of 13 = .ok (.astore 4, 2) := dr_58 (by decide +kernel)
theorem dL_of_15 : decode cL_of 15 = .ok (.iconst 1, 1) := dr_4 (by decide +kernel)
theorem dL_of_16 : decode cL_of 16 = .ok (.ireturn, 1) := dr_172 (by decide +kernel)
theorem dL_of_17 : decode cL_of 17 = .ok (.iconst 0, 1) := dr_3 (by decide +kernel)
theorem dL_of_18 : decode cL_of 18 = .ok (.ireturn, 1) := dr_172 (by decide +kernel)
theorem dL_row_0 : decode cL_row 0 = .ok (.aload_n 2, 1) := dr_44 (by decide +kernel)
theorem dL_row_1 : decode cL_row 1 = .ok (.iconst 0, 1) := dr_3 (by decide +kernel)
theorem dL_row_2 : decode cL_row 2 = .ok (.aload_n 0, 1) := dr_42 (by decide +kernel)
theorem dL_row_3 : decode cL_row 3 = .ok (.iload_n 1, 1) := dr_27 (by decide +kernel)
theorem dL_row_4 : decode cL_row 4 = .ok (.invokevirtual 15, 3) := dr_182 (by decide +kernel)
theorem dL_row_7 : decode cL_row 7 = .ok (.lastore, 1) := dr_80 (by decide +kernel)
theorem dL_row_8 : decode cL_row 8 = .ok (.goto 6, 3) := dr_167 (by decide +kernel)
theorem dL_row_11 : decode cL_row 11 = .ok (.astore_n 3, 1) := dr_78 (by decide +kernel)
theorem dL_row_12 : decode cL_row 12 = .ok (.iconst 1, 1) := dr_4 (by decide +kernel)
theorem dL_row_13 : decode cL_row 13 = .ok (.ireturn, 1) := dr_172 (by decide +kernel)
theorem dL_row_14 : decode cL_row 14 = .ok (.iconst 0, 1) := dr_3 (by decide +kernel)
theorem dL_row_15 : decode cL_row 15 = .ok (.ireturn, 1) := dr_172 (by decide +kernel)
theorem dL_law_0 : decode cL_law 0 = .ok (.new 8, 3) := dr_187 (by decide +kernel)
theorem dL_law_3 : decode cL_law 3 = .ok (.dup, 1) := dr_89 (by decide +kernel)
theorem dL_law_4 : decode cL_law 4 = .ok (.invokespecial 19, 3) := dr_183 (by decide +kernel)
theorem dL_law_7 : decode cL_law 7 = .ok (.astore_n 1, 1) := dr_76 (by decide +kernel)
theorem dL_law_8 : decode cL_law 8 = .ok (.new 20, 3) := dr_187 (by decide +kernel)
theorem dL_law_11 : decode cL_law 11 = .ok (.dup, 1) := dr_89 (by decide +kernel)
theorem dL_law_12 : decode cL_law 12 = .ok (.invokespecial 22, 3) := dr_183 (by decide +kernel)
theorem dL_law_15 : decode cL_law 15 = .ok (.astore_n 2, 1) := dr_77 (by decide +kernel)
theorem dL_law_16 : decode cL_law 16 = .ok (.iconst 1, 1) := dr_4 (by decide +kernel)
theorem dL_law_17 : decode cL_law 17 = .ok (.newarray .long, 2) := by decide +kernel
theorem dL_law_19 : decode cL_law 19 = .ok (.astore_n 3, 1) := dr_78 (by decide +kernel)
theorem dL_law_20 : decode cL_law 20 = .ok (.iconst 0, 1) := dr_3 (by decide +kernel)
theorem dL_law_21 : decode cL_law 21 = .ok (.istore 4, 2) := dr_54 (by decide +kernel)
theorem dL_law_23 : decode cL_law 23 = .ok (.iload 4, 2) := dr_21 (by decide +kernel)
theorem dL_law_25 : decode cL_law 25 = .ok (.aload_n 0, 1) := dr_42 (by decide +kernel)
theorem dL_law_26 : decode cL_law 26 = .ok (.arraylength, 1) := dr_190 (by decide +kernel)
theorem dL_law_27 : decode cL_law 27 = .ok (.bipush 6, 2) := dr_16 (by decide +kernel)
theorem dL_law_29 : decode cL_law 29 = .ok (.isub, 1) := dr_100 (by decide +kernel)
theorem dL_law_30 : decode cL_law 30 = .ok (.if_icmp .gt 1526, 3) := dr_163 (by decide +kernel)
theorem dL_law_33 : decode cL_law 33 = .ok (.aload_n 0, 1) := dr_42 (by decide +kernel)
theorem dL_law_34 : decode cL_law 34 = .ok (.iload 4, 2) := dr_21 (by decide +kernel)
theorem dL_law_36 : decode cL_law 36 = .ok (.iaload, 1) := dr_46 (by decide +kernel)
theorem dL_law_37 : decode cL_law 37 = .ok (.bipush 63, 2) := dr_16 (by decide +kernel)
theorem dL_law_39 : decode cL_law 39 = .ok (.iand, 1) := dr_126 (by decide +kernel)
theorem dL_law_40 : decode cL_law 40 = .ok (.tableswitch 1510 0 43 #[192, 217, 242, 255, 268, 281, 318, 386, 423, 496, 549, 586, 599, 648, 685, 734, 747, 784, 809, 834, 847, 872, 885, 898, 911, 948, 997, 1046, 1071, 1120, 1145, 1182, 1207, 1220, 1245, 1294, 1307, 1320, 1357, 1382, 1407, 1432, 1457, 1482], 192) := by decide +kernel
set_option maxRecDepth 100000 in
theorem dL_law_232 : decode cL_law 232 = .ok (.aload_n 1, 1) := dr_43 (by decide +kernel)
set_option maxRecDepth 100000 in
theorem dL_law_233 : decode cL_law 233 = .ok (.aload_n 0, 1) := dr_42 (by decide +kernel)
set_option maxRecDepth 100000 in
theorem dL_law_234 : decode cL_law 234 = .ok (.iload 4, 2) := dr_21 (by decide +kernel)
set_option maxRecDepth 100000 in
theorem dL_law_236 : decode cL_law 236 = .ok (.iconst 1, 1) := dr_4 (by decide +kernel)
set_option maxRecDepth 100000 in
theorem dL_law_237 : decode cL_law 237 = .ok (.iadd, 1) := dr_96 (by decide +kernel)
set_option maxRecDepth 100000 in
theorem dL_law_238 : decode cL_law 238 = .ok (.iaload, 1) := dr_46 (by decide +kernel)
set_option maxRecDepth 100000 in
theorem dL_law_239 : decode cL_law 239 = .ok (.invokevirtual 23, 3) := dr_182 (by decide +kernel)
set_option maxRecDepth 100000 in
theorem dL_law_242 : decode cL_law 242 = .ok (.pop, 1) := dr_87 (by decide +kernel)
set_option maxRecDepth 100000 in
theorem dL_law_243 : decode cL_law 243 = .ok (.aload_n 2, 1) := dr_44 (by decide +kernel)
set_option maxRecDepth 100000 in
theorem dL_law_244 : decode cL_law 244 = .ok (.aload_n 0, 1) := dr_42 (by decide +kernel)
set_option maxRecDepth 100000 in
theorem dL_law_245 : decode cL_law 245 = .ok (.iload 4, 2) := dr_21 (by decide +kernel)
set_option maxRecDepth 100000 in
theorem dL_law_247 : decode cL_law 247 = .ok (.iconst 1, 1) := dr_4 (by decide +kernel)
set_option maxRecDepth 100000 in
theorem dL_law_248 : decode cL_law 248 = .ok (.iadd, 1) := dr_96 (by decide +kernel)
set_option maxRecDepth 100000 in
theorem dL_law_249 : decode cL_law 249 = .ok (.iaload, 1) := dr_46 (by decide +kernel)
set_option maxRecDepth 100000 in
theorem dL_law_250 : decode cL_law 250 = .ok (.invokevirtual 27, 3) := dr_182 (by decide +kernel)
set_option maxRecDepth 100000 in
theorem dL_law_253 : decode cL_law 253 = .ok (.pop, 1) := dr_87 (by decide +kernel)
set_option maxRecDepth 100000 in
theorem dL_law_254 : decode cL_law 254 = .ok (.goto 1296, 3) := dr_167 (by decide +kernel)
set_option maxRecDepth 100000 in
theorem dL_law_257 : decode cL_law 257 = .ok (.aload_n 1, 1) := dr_43 (by decide +kernel)
set_option maxRecDepth 100000 in
theorem dL_law_258 : decode cL_law 258 = .ok (.aload_n 0, 1) := dr_42 (by decide +kernel)
set_option maxRecDepth 100000 in
theorem dL_law_259 : decode cL_law 259 = .ok (.iload 4, 2) := dr_21 (by decide +kernel)
set_option maxRecDepth 100000 in
theorem dL_law_261 : decode cL_law 261 = .ok (.iconst 1, 1) := dr_4 (by decide +kernel)
set_option maxRecDepth 100000 in
theorem dL_law_262 : decode cL_law 262 = .ok (.iadd, 1) := dr_96 (by decide +kernel)
set_option maxRecDepth 100000 in
theorem dL_law_263 : decode cL_law 263 = .ok (.iaload, 1) := dr_46 (by decide +kernel)
set_option maxRecDepth 100000 in
theorem dL_law_264 : decode cL_law 264 = .ok (.invokevirtual 28, 3) := dr_182 (by decide +kernel)
set_option maxRecDepth 100000 in
theorem dL_law_267 : decode cL_law 267 = .ok (.pop, 1) := dr_87 (by decide +kernel)
set_option maxRecDepth 100000 in
theorem dL_law_268 : decode cL_law 268 = .ok (.aload_n 2, 1) := dr_44 (by decide +kernel)
set_option maxRecDepth 100000 in
theorem dL_law_269 : decode cL_law 269 = .ok (.aload_n 0, 1) := dr_42 (by decide +kernel)
set_option maxRecDepth 100000 in
theorem dL_law_270 : decode cL_law 270 = .ok (.iload 4, 2) := dr_21 (by decide +kernel)
set_option maxRecDepth 100000 in
theorem dL_law_272 : decode cL_law 272 = .ok (.iconst 1, 1) := dr_4 (by decide +kernel)
set_option maxRecDepth 100000 in
theorem dL_law_273 : decode cL_law 273 = .ok (.iadd, 1) := dr_96 (by decide +kernel)
set_option maxRecDepth 100000 in
theorem dL_law_274 : decode cL_law 274 = .ok (.iaload, 1) := dr_46 (by decide +kernel)
set_option maxRecDepth 100000 in
theorem dL_law_275 : decode cL_law 275 = .ok (.invokevirtual 32, 3) := dr_182 (by decide +kernel)
set_option maxRecDepth 100000 in
theorem dL_law_278 : decode cL_law 278 = .ok (.pop, 1) := dr_87 (by decide +kernel)
set_option maxRecDepth 100000 in
theorem dL_law_279 : decode cL_law 279 = .ok (.goto 1271, 3) := dr_167 (by decide +kernel)
set_option maxRecDepth 100000 in
theorem dL_law_282 : decode cL_law 282 = .ok (.aload_n 1, 1) := dr_43 (by decide +kernel)
set_option maxRecDepth 100000 in
theorem dL_law_283 : decode cL_law 283 = .ok (.invokevirtual 33, 3) := dr_182 (by decide +kernel)
set_option maxRecDepth 100000 in
theorem dL_law_286 : decode cL_law 286 = .ok (.pop, 1) := dr_87 (by decide +kernel)
set_option maxRecDepth 100000 in
theorem dL_law_287 : decode cL_law 287 = .ok (.aload_n 2, 1) := dr_44 (by decide +kernel)
set_option maxRecDepth 100000 in
theorem dL_law_288 : decode cL_law 288 = .ok (.invokevirtual 37, 3) := dr_182 (by decide +kernel)
set_option maxRecDepth 100000 in
theorem dL_law_291 : decode cL_law 291 = .ok (.pop, 1) := dr_87 (by decide +kernel)
set_option maxRecDepth 100000 in
theorem dL_law_292 : decode cL_law 292 = .ok (.goto 1258, 3) := dr_167 (by decide +kernel)
set_option maxRecDepth 100000 in
theorem dL_law_295 : decode cL_law 295 = .ok (.aload_n 1, 1) := dr_43 (by decide +kernel)
set_option maxRecDepth 100000 in
theorem dL_law_296 : decode cL_law 296 = .ok (.invokevirtual 38, 3) := dr_182 (by decide +kernel)
set_option maxRecDepth 100000 in
theorem dL_law_299 : decode cL_law 299 = .ok (.pop, 1) := dr_87 (by decide +kernel)
set_option maxRecDepth 100000 in
theorem dL_law_300 : decode cL_law 300 = .ok (.aload_n 2, 1) := dr_44 (by decide +kernel)
set_option maxRecDepth 100000 in
theorem dL_law_301 : decode cL_law 301 = .ok (.invokevirtual 41, 3) := dr_182 (by decide +kernel)
set_option maxRecDepth 100000 in
theorem dL_law_304 : decode cL_law 304 = .ok (.pop, 1) := dr_87 (by decide +kernel)
set_option maxRecDepth 100000 in
theorem dL_law_305 : decode cL_law 305 = .ok (.goto 1245, 3) := dr_167 (by decide +kernel)
set_option maxRecDepth 100000 in
theorem dL_law_308 : decode cL_law 308 = .ok (.aload_n 1, 1) := dr_43 (by decide +kernel)
set_option maxRecDepth 100000 in
theorem dL_law_309 : decode cL_law 309 = .ok (.invokevirtual 42, 3) := dr_182 (by decide +kernel)
set_option maxRecDepth 100000 in
theorem dL_law_312 : decode cL_law 312 = .ok (.pop, 1) := dr_87 (by decide +kernel)
set_option maxRecDepth 100000 in
theorem dL_law_313 : decode cL_law 313 = .ok (.aload_n 2, 1) := dr_44 (by decide +kernel)
set_option maxRecDepth 100000 in
theorem dL_law_314 : decode cL_law 314 = .ok (.invokevirtual 45, 3) := dr_182 (by decide +kernel)
set_option maxRecDepth 100000 in
theorem dL_law_317 : decode cL_law 317 = .ok (.pop, 1) := dr_87 (by decide +kernel)
set_option maxRecDepth 100000 in
theorem dL_law_318 : decode cL_law 318 = .ok (.goto 1232, 3) := dr_167 (by decide +kernel)
set_option maxRecDepth 100000 in
theorem dL_law_321 : decode cL_law 321 = .ok (.aload_n 1, 1) := dr_43 (by decide +kernel)
set_option maxRecDepth 100000 in
theorem dL_law_322 : decode cL_law 322 = .ok (.aload_n 0, 1) := dr_42 (by decide +kernel)
set_option maxRecDepth 100000 in
theorem dL_law_323 : decode cL_law 323 = .ok (.iload 4, 2) := dr_21 (by decide +kernel)
set_option maxRecDepth 100000 in
theorem dL_law_325 : decode cL_law 325 = .ok (.iconst 1, 1) := dr_4 (by decide +kernel)
set_option maxRecDepth 100000 in
theorem dL_law_326 : decode cL_law 326 = .ok (.iadd, 1) := dr_96 (by decide +kernel)
set_option maxRecDepth 100000 in
theorem dL_law_327 : decode cL_law 327 = .ok (.iaload, 1) := dr_46 (by decide +kernel)
set_option maxRecDepth 100000 in
theorem dL_law_328 : decode cL_law 328 = .ok (.aload_n 0, 1) := dr_42 (by decide +kernel)
set_option maxRecDepth 100000 in
theorem dL_law_329 : decode cL_law 329 = .ok (.iload 4, 2) := dr_21 (by decide +kernel)
set_option maxRecDepth 100000 in
theorem dL_law_331 : decode cL_law 331 = .ok (.iconst 2, 1) := dr_5 (by decide +kernel)
set_option maxRecDepth 100000 in
theorem dL_law_332 : decode cL_law 332 = .ok (.iadd, 1) := dr_96 (by decide +kernel)
set_option maxRecDepth 100000 in
theorem dL_law_333 : decode cL_law 333 = .ok (.iaload, 1) := dr_46 (by decide +kernel)
set_option maxRecDepth 100000 in
theorem dL_law_334 : decode cL_law 334 = .ok (.invokevirtual 46, 3) := dr_182 (by decide +kernel)
set_option maxRecDepth 100000 in
theorem dL_law_337 : decode cL_law 337 = .ok (.pop, 1) := dr_87 (by decide +kernel)
set_option maxRecDepth 100000 in
theorem dL_law_338 : decode cL_law 338 = .ok (.aload_n 2, 1) := dr_44 (by decide +kernel)
set_option maxRecDepth 100000 in
theorem dL_law_339 : decode cL_law 339 = .ok (.aload_n 0, 1) := dr_42 (by decide +kernel)
set_option maxRecDepth 100000 in
theorem dL_law_340 : decode cL_law 340 = .ok (.iload 4, 2) := dr_21 (by decide +kernel)
set_option maxRecDepth 100000 in
theorem dL_law_342 : decode cL_law 342 = .ok (.iconst 1, 1) := dr_4 (by decide +kernel)
set_option maxRecDepth 100000 in
theorem dL_law_343 : decode cL_law 343 = .ok (.iadd, 1) := dr_96 (by decide +kernel)
set_option maxRecDepth 100000 in
theorem dL_law_344 : decode cL_law 344 = .ok (.iaload, 1) := dr_46 (by decide +kernel)
set_option maxRecDepth 100000 in
theorem dL_law_345 : decode cL_law 345 = .ok (.aload_n 0, 1) := dr_42 (by decide +kernel)
set_option maxRecDepth 100000 in
theorem dL_law_346 : decode cL_law 346 = .ok (.iload 4, 2) := dr_21 (by decide +kernel)
set_option maxRecDepth 100000 in
theorem dL_law_348 : decode cL_law 348 = .ok (.iconst 2, 1) := dr_5 (by decide +kernel)
set_option maxRecDepth 100000 in
theorem dL_law_349 : decode cL_law 349 = .ok (.iadd, 1) := dr_96 (by decide +kernel)
set_option maxRecDepth 100000 in
theorem dL_law_350 : decode cL_law 350 = .ok (.iaload, 1) := dr_46 (by decide +kernel)
set_option maxRecDepth 100000 in
theorem dL_law_351 : decode cL_law 351 = .ok (.invokevirtual 49, 3) := dr_182 (by decide +kernel)
set_option maxRecDepth 100000 in
theorem dL_law_354 : decode cL_law 354 = .ok (.pop, 1) := dr_87 (by decide +kernel)
set_option maxRecDepth 100000 in
theorem dL_law_355 : decode cL_law 355 = .ok (.goto 1195, 3) := dr_167 (by decide +kernel)
set_option maxRecDepth 100000 in
theorem dL_law_358 : decode cL_law 358 = .ok (.aload_n 1, 1) := dr_43 (by decide +kernel)
set_option maxRecDepth 100000 in
theorem dL_law_359 : decode cL_law 359 = .ok (.aload_n 0, 1) := dr_42 (by decide +kernel)
set_option maxRecDepth 100000 in
theorem dL_law_360 : decode cL_law 360 = .ok (.iload 4, 2) := dr_21 (by decide +kernel)
set_option maxRecDepth 100000 in
theorem dL_law_362 : decode cL_law 362 = .ok (.iconst 1, 1) := dr_4 (by decide +kernel)
set_option maxRecDepth 100000 in
theorem dL_law_363 : decode cL_law 363 = .ok (.iadd, 1) := dr_96 (by decide +kernel)
set_option maxRecDepth 100000 in
theorem dL_law_364 : decode cL_law 364 = .ok (.iaload, 1) := dr_46 (by decide +kernel)
set_option maxRecDepth 100000 in
theorem dL_law_365 : decode cL_law 365 = .ok (.aload_n 0, 1) := dr_42 (by decide +kernel)
set_option maxRecDepth 100000 in
theorem dL_law_366 : decode cL_law 366 = .ok (.iload 4, 2) := dr_21 (by decide +kernel)
set_option maxRecDepth 100000 in
theorem dL_law_368 : decode cL_law 368 = .ok (.iconst 2, 1) := dr_5 (by decide +kernel)
set_option maxRecDepth 100000 in
theorem dL_law_369 : decode cL_law 369 = .ok (.iadd, 1) := dr_96 (by decide +kernel)
set_option maxRecDepth 100000 in
theorem dL_law_370 : decode cL_law 370 = .ok (.iaload, 1) := dr_46 (by decide +kernel)
set_option maxRecDepth 100000 in
theorem dL_law_371 : decode cL_law 371 = .ok (.aload_n 3, 1) := dr_45 (by decide +kernel)
set_option maxRecDepth 100000 in
theorem dL_law_372 : decode cL_law 372 = .ok (.invokestatic 50, 3) := dr_184 (by decide +kernel)
set_option maxRecDepth 100000 in
theorem dL_law_375 : decode cL_law 375 = .ok (.istore 5, 2) := dr_54 (by decide +kernel)
set_option maxRecDepth 100000 in
theorem dL_law_377 : decode cL_law 377 = .ok (.aload_n 2, 1) := dr_44 (by decide +kernel)
set_option maxRecDepth 100000 in
theorem dL_law_378 : decode cL_law 378 = .ok (.aload_n 0, 1) := dr_42 (by decide +kernel)
set_option maxRecDepth 100000 in
theorem dL_law_379 : decode cL_law 379 = .ok (.iload 4, 2) := dr_21 (by decide +kernel)
set_option maxRecDepth 100000 in
theorem dL_law_381 : decode cL_law 381 = .ok (.iconst 1, 1) := dr_4 (by decide +kernel)
set_option maxRecDepth 100000 in
theorem dL_law_382 : decode cL_law 382 = .ok (.iadd, 1) := dr_96 (by decide +kernel)
set_option maxRecDepth 100000 in
theorem dL_law_383 : decode cL_law 383 = .ok (.iaload, 1) := dr_46 (by decide +kernel)
set_option maxRecDepth 100000 in
theorem dL_law_384 : decode cL_law 384 = .ok (.aload_n 0, 1) := dr_42 (by decide +kernel)
set_option maxRecDepth 100000 in
theorem dL_law_385 : decode cL_law 385 = .ok (.iload 4, 2) := dr_21 (by decide +kernel)
set_option maxRecDepth 100000 in
theorem dL_law_387 : decode cL_law 387 = .ok (.iconst 2, 1) := dr_5 (by decide +kernel)
set_option maxRecDepth 100000 in
theorem dL_law_388 : decode cL_law 388 = .ok (.iadd, 1) := dr_96 (by decide +kernel)
set_option maxRecDepth 100000 in
theorem dL_law_389 : decode cL_law 389 = .ok (.iaload, 1) := dr_46 (by decide +kernel)
set_option maxRecDepth 100000 in
theorem dL_law_390 : decode cL_law 390 = .ok (.invokevirtual 55, 3) := dr_182 (by decide +kernel)
set_option maxRecDepth 100000 in
theorem dL_law_393 : decode cL_law 393 = .ok (.istore 6, 2) := dr_54 (by decide +kernel)
set_option maxRecDepth 100000 in
theorem dL_law_395 : decode cL_law 395 = .ok (.aload_n 2, 1) := dr_44 (by decide +kernel)
set_option maxRecDepth 100000 in
theorem dL_law_396 : decode cL_law 396 = .ok (.invokevirtual 56, 3) := dr_182 (by decide +kernel)
set_option maxRecDepth 100000 in
theorem dL_law_399 : decode cL_law 399 = .ok (.iload 5, 2) := dr_21 (by decide +kernel)
set_option maxRecDepth 100000 in
theorem dL_law_401 : decode cL_law 401 = .ok (.if_icmp .eq 5, 3) := dr_159 (by decide +kernel)
set_option maxRecDepth 100000 in
theorem dL_law_404 : decode cL_law 404 = .ok (.iconst 0, 1) := dr_3 (by decide +kernel)
set_option maxRecDepth 100000 in
theorem dL_law_405 : decode cL_law 405 = .ok (.ireturn, 1) := dr_172 (by decide +kernel)
set_option maxRecDepth 100000 in
theorem dL_law_406 : decode cL_law 406 = .ok (.iload 5, 2) := dr_21 (by decide +kernel)
set_option maxRecDepth 100000 in
theorem dL_law_408 : decode cL_law 408 = .ok (.ifCond .ne 15, 3) := dr_154 (by decide +kernel)
set_option maxRecDepth 100000 in
theorem dL_law_411 : decode cL_law 411 = .ok (.aload_n 3, 1) := dr_45 (by decide +kernel)
set_option maxRecDepth 100000 in
theorem dL_law_412 : decode cL_law 412 = .ok (.iconst 0, 1) := dr_3 (by decide +kernel)
set_option maxRecDepth 100000 in
theorem dL_law_413 : decode cL_law 413 = .ok (.laload, 1) := dr_47 (by decide +kernel)
set_option maxRecDepth 100000 in
theorem dL_law_414 : decode cL_law 414 = .ok (.iload 6, 2) := dr_21 (by decide +kernel)
set_option maxRecDepth 100000 in
theorem dL_law_416 : decode cL_law 416 = .ok (.i2l, 1) := dr_133 (by decide +kernel)
set_option maxRecDepth 100000 in
theorem dL_law_417 : decode cL_law 417 = .ok (.lcmp, 1) := dr_148 (by decide +kernel)
set_option maxRecDepth 100000 in
theorem dL_law_418 : decode cL_law 418 = .ok (.ifCond .eq 5, 3) := dr_153 (by decide +kernel)
set_option maxRecDepth 100000 in
theorem dL_law_421 : decode cL_law 421 = .ok (.iconst 0, 1) := dr_3 (by decide +kernel)
set_option maxRecDepth 100000 in
theorem dL_law_422 : decode cL_law 422 = .ok (.ireturn, 1) := dr_172 (by decide +kernel)
set_option maxRecDepth 100000 in
theorem dL_law_423 : decode cL_law 423 = .ok (.goto 1127, 3) := dr_167 (by decide +kernel)
set_option maxRecDepth 100000 in
theorem dL_law_426 : decode cL_law 426 = .ok (.aload_n 1, 1) := dr_43 (by decide +kernel)
set_option maxRecDepth 100000 in
theorem dL_law_427 : decode cL_law 427 = .ok (.aload_n 0, 1) := dr_42 (by decide +kernel)
set_option maxRecDepth 100000 in
theorem dL_law_428 : decode cL_law 428 = .ok (.iload 4, 2) := dr_21 (by decide +kernel)
set_option maxRecDepth 100000 in
theorem dL_law_430 : decode cL_law 430 = .ok (.iconst 1, 1) := dr_4 (by decide +kernel)
set_option maxRecDepth 100000 in
theorem dL_law_431 : decode cL_law 431 = .ok (.iadd, 1) := dr_96 (by decide +kernel)
set_option maxRecDepth 100000 in
theorem dL_law_432 : decode cL_law 432 = .ok (.iaload, 1) := dr_46 (by decide +kernel)
set_option maxRecDepth 100000 in
theorem dL_law_433 : decode cL_law 433 = .ok (.aload_n 0, 1) := dr_42 (by decide +kernel)
set_option maxRecDepth 100000 in
theorem dL_law_434 : decode cL_law 434 = .ok (.iload 4, 2) := dr_21 (by decide +kernel)
set_option maxRecDepth 100000 in
theorem dL_law_436 : decode cL_law 436 = .ok (.iconst 2, 1) := dr_5 (by decide +kernel)
set_option maxRecDepth 100000 in
theorem dL_law_437 : decode cL_law 437 = .ok (.iadd, 1) := dr_96 (by decide +kernel)
set_option maxRecDepth 100000 in
theorem dL_law_438 : decode cL_law 438 = .ok (.iaload, 1) := dr_46 (by decide +kernel)
set_option maxRecDepth 100000 in
theorem dL_law_439 : decode cL_law 439 = .ok (.invokevirtual 59, 3) := dr_182 (by decide +kernel)
set_option maxRecDepth 100000 in
theorem dL_law_442 : decode cL_law 442 = .ok (.pop, 1) := dr_87 (by decide +kernel)
set_option maxRecDepth 100000 in
theorem dL_law_443 : decode cL_law 443 = .ok (.aload_n 2, 1) := dr_44 (by decide +kernel)
set_option maxRecDepth 100000 in
theorem dL_law_444 : decode cL_law 444 = .ok (.aload_n 0, 1) := dr_42 (by decide +kernel)
set_option maxRecDepth 100000 in
theorem dL_law_445 : decode cL_law 445 = .ok (.iload 4, 2) := dr_21 (by decide +kernel)
set_option maxRecDepth 100000 in
theorem dL_law_447 : decode cL_law 447 = .ok (.iconst 1, 1) := dr_4 (by decide +kernel)
set_option maxRecDepth 100000 in
theorem dL_law_448 : decode cL_law 448 = .ok (.iadd, 1) := dr_96 (by decide +kernel)
set_option maxRecDepth 100000 in
theorem dL_law_449 : decode cL_law 449 = .ok (.iaload, 1) := dr_46 (by decide +kernel)
set_option maxRecDepth 100000 in
theorem dL_law_450 : decode cL_law 450 = .ok (.aload_n 0, 1) := dr_42 (by decide +kernel)
set_option maxRecDepth 100000 in
theorem dL_law_451 : decode cL_law 451 = .ok (.iload 4, 2) := dr_21 (by decide +kernel)
set_option maxRecDepth 100000 in
theorem dL_law_453 : decode cL_law 453 = .ok (.iconst 2, 1) := dr_5 (by decide +kernel)
set_option maxRecDepth 100000 in
theorem dL_law_454 : decode cL_law 454 = .ok (.iadd, 1) := dr_96 (by decide +kernel)
set_option maxRecDepth 100000 in
theorem dL_law_455 : decode cL_law 455 = .ok (.iaload, 1) := dr_46 (by decide +kernel)
set_option maxRecDepth 100000 in
theorem dL_law_456 : decode cL_law 456 = .ok (.invokevirtual 62, 3) := dr_182 (by decide +kernel)
set_option maxRecDepth 100000 in
theorem dL_law_459 : decode cL_law 459 = .ok (.pop, 1) := dr_87 (by decide +kernel)
set_option maxRecDepth 100000 in
theorem dL_law_460 : decode cL_law 460 = .ok (.goto 1090, 3) := dr_167 (by decide +kernel)
set_option maxRecDepth 100000 in
theorem dL_law_463 : decode cL_law 463 = .ok (.aload_n 1, 1) := dr_43 (by decide +kernel)
set_option maxRecDepth 100000 in
theorem dL_law_464 : decode cL_law 464 = .ok (.aload_n 0, 1) := dr_42 (by decide +kernel)
set_option maxRecDepth 100000 in
theorem dL_law_465 : decode cL_law 465 = .ok (.iload 4, 2) := dr_21 (by decide +kernel)
set_option maxRecDepth 100000 in
theorem dL_law_467 : decode cL_law 467 = .ok (.iconst 1, 1) := dr_4 (by decide +kernel)
set_option maxRecDepth 100000 in
theorem dL_law_468 : decode cL_law 468 = .ok (.iadd, 1) := dr_96 (by decide +kernel)
set_option maxRecDepth 100000 in
theorem dL_law_469 : decode cL_law 469 = .ok (.iaload, 1) := dr_46 (by decide +kernel)
set_option maxRecDepth 100000 in
theorem dL_law_470 : decode cL_law 470 = .ok (.aload_n 0, 1) := dr_42 (by decide +kernel)
set_option maxRecDepth 100000 in
theorem dL_law_471 : decode cL_law 471 = .ok (.iload 4, 2) := dr_21 (by decide +kernel)
set_option maxRecDepth 100000 in
theorem dL_law_473 : decode cL_law 473 = .ok (.iconst 2, 1) := dr_5 (by decide +kernel)
set_option maxRecDepth 100000 in
theorem dL_law_474 : decode cL_law 474 = .ok (.iadd, 1) := dr_96 (by decide +kernel)
set_option maxRecDepth 100000 in
theorem dL_law_475 : decode cL_law 475 = .ok (.iaload, 1) := dr_46 (by decide +kernel)
set_option maxRecDepth 100000 in
theorem dL_law_476 : decode cL_law 476 = .ok (.aload_n 0, 1) := dr_42 (by decide +kernel)
set_option maxRecDepth 100000 in
theorem dL_law_477 : decode cL_law 477 = .ok (.iload 4, 2) := dr_21 (by decide +kernel)
set_option maxRecDepth 100000 in
theorem dL_law_479 : decode cL_law 479 = .ok (.iconst 3, 1) := dr_6 (by decide +kernel)
set_option maxRecDepth 100000 in
theorem dL_law_480 : decode cL_law 480 = .ok (.iadd, 1) := dr_96 (by decide +kernel)
set_option maxRecDepth 100000 in
theorem dL_law_481 : decode cL_law 481 = .ok (.iaload, 1) := dr_46 (by decide +kernel)
set_option maxRecDepth 100000 in
theorem dL_law_482 : decode cL_law 482 = .ok (.aload_n 0, 1) := dr_42 (by decide +kernel)
set_option maxRecDepth 100000 in
theorem dL_law_483 : decode cL_law 483 = .ok (.iload 4, 2) := dr_21 (by decide +kernel)
set_option maxRecDepth 100000 in
theorem dL_law_485 : decode cL_law 485 = .ok (.iconst 4, 1) := dr_7 (by decide +kernel)
set_option maxRecDepth 100000 in
theorem dL_law_486 : decode cL_law 486 = .ok (.iadd, 1) := dr_96 (by decide +kernel)
set_option maxRecDepth 100000 in
theorem dL_law_487 : decode cL_law 487 = .ok (.iaload, 1) := dr_46 (by decide +kernel)
set_option maxRecDepth 100000 in
theorem dL_law_488 : decode cL_law 488 = .ok (.aload_n 0, 1) := dr_42 (by decide +kernel)
set_option maxRecDepth 100000 in
theorem dL_law_489 : decode cL_law 489 = .ok (.iload 4, 2) := dr_21 (by decide +kernel)
set_option maxRecDepth 100000 in
theorem dL_law_491 : decode cL_law 491 = .ok (.iconst 5, 1) := dr_8 (by decide +kernel)
set_option maxRecDepth 100000 in
theorem dL_law_492 : decode cL_law 492 = .ok (.iadd, 1) := dr_96 (by decide +kernel)
set_option maxRecDepth 100000 in
theorem dL_law_493 : decode cL_law 493 = .ok (.iaload, 1) := dr_46 (by decide +kernel)
set_option maxRecDepth 100000 in
theorem dL_law_494 : decode cL_law 494 = .ok (.invokevirtual 63, 3) := dr_182 (by decide +kernel)
set_option maxRecDepth 100000 in
theorem dL_law_497 : decode cL_law 497 = .ok (.pop, 1) := dr_87 (by decide +kernel)
set_option maxRecDepth 100000 in
theorem dL_law_498 : decode cL_law 498 = .ok (.aload_n 2, 1) := dr_44 (by decide +kernel)
set_option maxRecDepth 100000 in
theorem dL_law_499 : decode cL_law 499 = .ok (.aload_n 0, 1) := dr_42 (by decide +kernel)
set_option maxRecDepth 100000 in
theorem dL_law_500 : decode cL_law 500 = .ok (.iload 4, 2) := dr_21 (by decide +kernel)
set_option maxRecDepth 100000 in
theorem dL_law_502 : decode cL_law 502 = .ok (.iconst 1, 1) := dr_4 (by decide +kernel)
set_option maxRecDepth 100000 in
theorem dL_law_503 : decode cL_law 503 = .ok (.iadd, 1) := dr_96 (by decide +kernel)
set_option maxRecDepth 100000 in
theorem dL_law_504 : decode cL_law 504 = .ok (.iaload, 1) := dr_46 (by decide +kernel)
set_option maxRecDepth 100000 in
theorem dL_law_505 : decode cL_law 505 = .ok (.aload_n 0, 1) := dr_42 (by decide +kernel)
set_option maxRecDepth 100000 in
theorem dL_law_506 : decode cL_law 506 = .ok (.iload 4, 2) := dr_21 (by decide +kernel)
set_option maxRecDepth 100000 in
theorem dL_law_508 : decode cL_law 508 = .ok (.iconst 2, 1) := dr_5 (by decide +kernel)
set_option maxRecDepth 100000 in
theorem dL_law_509 : decode cL_law 509 = .ok (.iadd, 1) := dr_96 (by decide +kernel)
set_option maxRecDepth 100000 in
theorem dL_law_510 : decode cL_law 510 = .ok (.iaload, 1) := dr_46 (by decide +kernel)
set_option maxRecDepth 100000 in
theorem dL_law_511 : decode cL_law 511 = .ok (.aload_n 0, 1) := dr_42 (by decide +kernel)
set_option maxRecDepth 100000 in
theorem dL_law_512 : decode cL_law 512 = .ok (.iload 4, 2) := dr_21 (by decide +kernel)
set_option maxRecDepth 100000 in
theorem dL_law_514 : decode cL_law 514 = .ok (.iconst 3, 1) := dr_6 (by decide +kernel)
set_option maxRecDepth 100000 in
theorem dL_law_515 : decode cL_law 515 = .ok (.iadd, 1) := dr_96 (by decide +kernel)
set_option maxRecDepth 100000 in
theorem dL_law_516 : decode cL_law 516 = .ok (.iaload, 1) := dr_46 (by decide +kernel)
set_option maxRecDepth 100000 in
theorem dL_law_517 : decode cL_law 517 = .ok (.aload_n 0, 1) := dr_42 (by decide +kernel)
set_option maxRecDepth 100000 in
theorem dL_law_518 : decode cL_law 518 = .ok (.iload 4, 2) := dr_21 (by decide +kernel)
set_option maxRecDepth 100000 in
theorem dL_law_520 : decode cL_law 520 = .ok (.iconst 4, 1) := dr_7 (by decide +kernel)
set_option maxRecDepth 100000 in
theorem dL_law_521 : decode cL_law 521 = .ok (.iadd, 1) := dr_96 (by decide +kernel)
set_option maxRecDepth 100000 in
theorem dL_law_522 : decode cL_law 522 = .ok (.iaload, 1) := dr_46 (by decide +kernel)
set_option maxRecDepth 100000 in
theorem dL_law_523 : decode cL_law 523 = .ok (.aload_n 0, 1) := dr_42 (by decide +kernel)
set_option maxRecDepth 100000 in
theorem dL_law_524 : decode cL_law 524 = .ok (.iload 4, 2) := dr_21 (by decide +kernel)
set_option maxRecDepth 100000 in
theorem dL_law_526 : decode cL_law 526 = .ok (.iconst 5, 1) := dr_8 (by decide +kernel)
set_option maxRecDepth 100000 in
theorem dL_law_527 : decode cL_law 527 = .ok (.iadd, 1) := dr_96 (by decide +kernel)
set_option maxRecDepth 100000 in
theorem dL_law_528 : decode cL_law 528 = .ok (.iaload, 1) := dr_46 (by decide +kernel)
set_option maxRecDepth 100000 in
theorem dL_law_529 : decode cL_law 529 = .ok (.invokevirtual 67, 3) := dr_182 (by decide +kernel)
set_option maxRecDepth 100000 in
theorem dL_law_532 : decode cL_law 532 = .ok (.pop, 1) := dr_87 (by decide +kernel)
set_option maxRecDepth 100000 in
theorem dL_law_533 : decode cL_law 533 = .ok (.goto 1017, 3) := dr_167 (by decide +kernel)
set_option maxRecDepth 100000 in
theorem dL_law_536 : decode cL_law 536 = .ok (.aload_n 1, 1) := dr_43 (by decide +kernel)
set_option maxRecDepth 100000 in
theorem dL_law_537 : decode cL_law 537 = .ok (.aload_n 0, 1) := dr_42 (by decide +kernel)
set_option maxRecDepth 100000 in
theorem dL_law_538 : decode cL_law 538 = .ok (.iload 4, 2) := dr_21 (by decide +kernel)
set_option maxRecDepth 100000 in
theorem dL_law_540 : decode cL_law 540 = .ok (.iconst 1, 1) := dr_4 (by decide +kernel)
set_option maxRecDepth 100000 in
theorem dL_law_541 : decode cL_law 541 = .ok (.iadd, 1) := dr_96 (by decide +kernel)
set_option maxRecDepth 100000 in
theorem dL_law_542 : decode cL_law 542 = .ok (.iaload, 1) := dr_46 (by decide +kernel)
set_option maxRecDepth 100000 in
theorem dL_law_543 : decode cL_law 543 = .ok (.aload_n 0, 1) := dr_42 (by decide +kernel)
set_option maxRecDepth 100000 in
theorem dL_law_544 : decode cL_law 544 = .ok (.iload 4, 2) := dr_21 (by decide +kernel)
set_option maxRecDepth 100000 in
theorem dL_law_546 : decode cL_law 546 = .ok (.iconst 2, 1) := dr_5 (by decide +kernel)
set_option maxRecDepth 100000 in
theorem dL_law_547 : decode cL_law 547 = .ok (.iadd, 1) := dr_96 (by decide +kernel)
set_option maxRecDepth 100000 in
theorem dL_law_548 : decode cL_law 548 = .ok (.iaload, 1) := dr_46 (by decide +kernel)
set_option maxRecDepth 100000 in
theorem dL_law_549 : decode cL_law 549 = .ok (.ifCond .eq 7, 3) := dr_153 (by decide +kernel)
set_option maxRecDepth 100000 in
theorem dL_law_552 : decode cL_law 552 = .ok (.iconst 1, 1) := dr_4 (by decide +kernel)
set_option maxRecDepth 100000 in
theorem dL_law_553 : decode cL_law 553 = .ok (.goto 4, 3) := dr_167 (by decide +kernel)
set_option maxRecDepth 100000 in
theorem dL_law_556 : decode cL_law 556 = .ok (.iconst 0, 1) := dr_3 (by decide +kernel)
set_option maxRecDepth 100000 in
theorem dL_law_557 : decode cL_law 557 = .ok (.invokevirtual 68, 3) := dr_182 (by decide +kernel)
set_option maxRecDepth 100000 in
theorem dL_law_560 : decode cL_law 560 = .ok (.pop, 1) := dr_87 (by decide +kernel)
set_option maxRecDepth 100000 in
theorem dL_law_561 : decode cL_law 561 = .ok (.aload_n 2, 1) := dr_44 (by decide +kernel)
set_option maxRecDepth 100000 in
theorem dL_law_562 : decode cL_law 562 = .ok (.aload_n 0, 1) := dr_42 (by decide +kernel)
set_option maxRecDepth 100000 in
theorem dL_law_563 : decode cL_law 563 = .ok (.iload 4, 2) := dr_21 (by decide +kernel)
set_option maxRecDepth 100000 in
theorem dL_law_565 : decode cL_law 565 = .ok (.iconst 1, 1) := dr_4 (by decide +kernel)
set_option maxRecDepth 100000 in
theorem dL_law_566 : decode cL_law 566 = .ok (.iadd, 1) := dr_96 (by decide +kernel)
set_option maxRecDepth 100000 in
theorem dL_law_567 : decode cL_law 567 = .ok (.iaload, 1) := dr_46 (by decide +kernel)
set_option maxRecDepth 100000 in
theorem dL_law_568 : decode cL_law 568 = .ok (.aload_n 0, 1) := dr_42 (by decide +kernel)
set_option maxRecDepth 100000 in
theorem dL_law_569 : decode cL_law 569 = .ok (.iload 4, 2) := dr_21 (by decide +kernel)
set_option maxRecDepth 100000 in
theorem dL_law_571 : decode cL_law 571 = .ok (.iconst 2, 1) := dr_5 (by decide +kernel)
set_option maxRecDepth 100000 in
theorem dL_law_572 : decode cL_law 572 = .ok (.iadd, 1) := dr_96 (by decide +kernel)
set_option maxRecDepth 100000 in
theorem dL_law_573 : decode cL_law 573 = .ok (.iaload, 1) := dr_46 (by decide +kernel)
set_option maxRecDepth 100000 in
theorem dL_law_574 : decode cL_law 574 = .ok (.ifCond .eq 7, 3) := dr_153 (by decide +kernel)
set_option maxRecDepth 100000 in
theorem dL_law_577 : decode cL_law 577 = .ok (.iconst 1, 1) := dr_4 (by decide +kernel)
set_option maxRecDepth 100000 in
theorem dL_law_578 : decode cL_law 578 = .ok (.goto 4, 3) := dr_167 (by decide +kernel)
set_option maxRecDepth 100000 in
theorem dL_law_581 : decode cL_law 581 = .ok (.iconst 0, 1) := dr_3 (by decide +kernel)
set_option maxRecDepth 100000 in
theorem dL_law_582 : decode cL_law 582 = .ok (.invokevirtual 72, 3) := dr_182 (by decide +kernel)
set_option maxRecDepth 100000 in
theorem dL_law_585 : decode cL_law 585 = .ok (.pop, 1) := dr_87 (by decide +kernel)
set_option maxRecDepth 100000 in
theorem dL_law_586 : decode cL_law 586 = .ok (.goto 964, 3) := dr_167 (by decide +kernel)
set_option maxRecDepth 100000 in
theorem dL_law_589 : decode cL_law 589 = .ok (.aload_n 1, 1) := dr_43 (by decide +kernel)
set_option maxRecDepth 100000 in
theorem dL_law_590 : decode cL_law 590 = .ok (.aload_n 0, 1) := dr_42 (by decide +kernel)
set_option maxRecDepth 100000 in
theorem dL_law_591 : decode cL_law 591 = .ok (.iload 4, 2) := dr_21 (by decide +kernel)
set_option maxRecDepth 100000 in
theorem dL_law_593 : decode cL_law 593 = .ok (.iconst 1, 1) := dr_4 (by decide +kernel)
set_option maxRecDepth 100000 in
theorem dL_law_594 : decode cL_law 594 = .ok (.iadd, 1) := dr_96 (by decide +kernel)
set_option maxRecDepth 100000 in
theorem dL_law_595 : decode cL_law 595 = .ok (.iaload, 1) := dr_46 (by decide +kernel)
set_option maxRecDepth 100000 in
theorem dL_law_596 : decode cL_law 596 = .ok (.aload_n 0, 1) := dr_42 (by decide +kernel)
set_option maxRecDepth 100000 in
theorem dL_law_597 : decode cL_law 597 = .ok (.iload 4, 2) := dr_21 (by decide +kernel)
set_option maxRecDepth 100000 in
theorem dL_law_599 : decode cL_law 599 = .ok (.iconst 2, 1) := dr_5 (by decide +kernel)
set_option maxRecDepth 100000 in
theorem dL_law_600 : decode cL_law 600 = .ok (.iadd, 1) := dr_96 (by decide +kernel)
set_option maxRecDepth 100000 in
theorem dL_law_601 : decode cL_law 601 = .ok (.iaload, 1) := dr_46 (by decide +kernel)
set_option maxRecDepth 100000 in
theorem dL_law_602 : decode cL_law 602 = .ok (.invokevirtual 73, 3) := dr_182 (by decide +kernel)
set_option maxRecDepth 100000 in
theorem dL_law_605 : decode cL_law 605 = .ok (.pop, 1) := dr_87 (by decide +kernel)
set_option maxRecDepth 100000 in
theorem dL_law_606 : decode cL_law 606 = .ok (.aload_n 2, 1) := dr_44 (by decide +kernel)
set_option maxRecDepth 100000 in
theorem dL_law_607 : decode cL_law 607 = .ok (.aload_n 0, 1) := dr_42 (by decide +kernel)
set_option maxRecDepth 100000 in
theorem dL_law_608 : decode cL_law 608 = .ok (.iload 4, 2) := dr_21 (by decide +kernel)
set_option maxRecDepth 100000 in
theorem dL_law_610 : decode cL_law 610 = .ok (.iconst 1, 1) := dr_4 (by decide +kernel)
set_option maxRecDepth 100000 in
theorem dL_law_611 : decode cL_law 611 = .ok (.iadd, 1) := dr_96 (by decide +kernel)
set_option maxRecDepth 100000 in
theorem dL_law_612 : decode cL_law 612 = .ok (.iaload, 1) := dr_46 (by decide +kernel)
set_option maxRecDepth 100000 in
theorem dL_law_613 : decode cL_law 613 = .ok (.aload_n 0, 1) := dr_42 (by decide +kernel)
set_option maxRecDepth 100000 in
theorem dL_law_614 : decode cL_law 614 = .ok (.iload 4, 2) := dr_21 (by decide +kernel)
set_option maxRecDepth 100000 in
theorem dL_law_616 : decode cL_law 616 = .ok (.iconst 2, 1) := dr_5 (by decide +kernel)
set_option maxRecDepth 100000 in
theorem dL_law_617 : decode cL_law 617 = .ok (.iadd, 1) := dr_96 (by decide +kernel)
set_option maxRecDepth 100000 in
theorem dL_law_618 : decode cL_law 618 = .ok (.iaload, 1) := dr_46 (by decide +kernel)
set_option maxRecDepth 100000 in
theorem dL_law_619 : decode cL_law 619 = .ok (.invokevirtual 77, 3) := dr_182 (by decide +kernel)
set_option maxRecDepth 100000 in
theorem dL_law_622 : decode cL_law 622 = .ok (.pop, 1) := dr_87 (by decide +kernel)
set_option maxRecDepth 100000 in
theorem dL_law_623 : decode cL_law 623 = .ok (.goto 927, 3) := dr_167 (by decide +kernel)
set_option maxRecDepth 100000 in
theorem dL_law_626 : decode cL_law 626 = .ok (.aload_n 1, 1) := dr_43 (by decide +kernel)
set_option maxRecDepth 100000 in
theorem dL_law_627 : decode cL_law 627 = .ok (.invokevirtual 78, 3) := dr_182 (by decide +kernel)
set_option maxRecDepth 100000 in
theorem dL_law_630 : decode cL_law 630 = .ok (.pop, 1) := dr_87 (by decide +kernel)
set_option maxRecDepth 100000 in
theorem dL_law_631 : decode cL_law 631 = .ok (.aload_n 2, 1) := dr_44 (by decide +kernel)
set_option maxRecDepth 100000 in
theorem dL_law_632 : decode cL_law 632 = .ok (.invokevirtual 81, 3) := dr_182 (by decide +kernel)
set_option maxRecDepth 100000 in
theorem dL_law_635 : decode cL_law 635 = .ok (.pop, 1) := dr_87 (by decide +kernel)
set_option maxRecDepth 100000 in
theorem dL_law_636 : decode cL_law 636 = .ok (.goto 914, 3) := dr_167 (by decide +kernel)
set_option maxRecDepth 100000 in
theorem dL_law_639 : decode cL_law 639 = .ok (.aload_n 1, 1) := dr_43 (by decide +kernel)
set_option maxRecDepth 100000 in
theorem dL_law_640 : decode cL_law 640 = .ok (.aload_n 0, 1) := dr_42 (by decide +kernel)
set_option maxRecDepth 100000 in
theorem dL_law_641 : decode cL_law 641 = .ok (.iload 4, 2) := dr_21 (by decide +kernel)
set_option maxRecDepth 100000 in
theorem dL_law_643 : decode cL_law 643 = .ok (.iconst 1, 1) := dr_4 (by decide +kernel)
set_option maxRecDepth 100000 in
theorem dL_law_644 : decode cL_law 644 = .ok (.iadd, 1) := dr_96 (by decide +kernel)
set_option maxRecDepth 100000 in
theorem dL_law_645 : decode cL_law 645 = .ok (.iaload, 1) := dr_46 (by decide +kernel)
set_option maxRecDepth 100000 in
theorem dL_law_646 : decode cL_law 646 = .ok (.aload_n 0, 1) := dr_42 (by decide +kernel)
set_option maxRecDepth 100000 in
theorem dL_law_647 : decode cL_law 647 = .ok (.iload 4, 2) := dr_21 (by decide +kernel)
set_option maxRecDepth 100000 in
theorem dL_law_649 : decode cL_law 649 = .ok (.iconst 2, 1) := dr_5 (by decide +kernel)
set_option maxRecDepth 100000 in
theorem dL_law_650 : decode cL_law 650 = .ok (.iadd, 1) := dr_96 (by decide +kernel)
set_option maxRecDepth 100000 in
theorem dL_law_651 : decode cL_law 651 = .ok (.iaload, 1) := dr_46 (by decide +kernel)
set_option maxRecDepth 100000 in
theorem dL_law_652 : decode cL_law 652 = .ok (.aload_n 0, 1) := dr_42 (by decide +kernel)
set_option maxRecDepth 100000 in
theorem dL_law_653 : decode cL_law 653 = .ok (.iload 4, 2) := dr_21 (by decide +kernel)
set_option maxRecDepth 100000 in
theorem dL_law_655 : decode cL_law 655 = .ok (.iconst 3, 1) := dr_6 (by decide +kernel)
set_option maxRecDepth 100000 in
theorem dL_law_656 : decode cL_law 656 = .ok (.iadd, 1) := dr_96 (by decide +kernel)
set_option maxRecDepth 100000 in
theorem dL_law_657 : decode cL_law 657 = .ok (.iaload, 1) := dr_46 (by decide +kernel)
set_option maxRecDepth 100000 in
theorem dL_law_658 : decode cL_law 658 = .ok (.invokevirtual 82, 3) := dr_182 (by decide +kernel)
set_option maxRecDepth 100000 in
theorem dL_law_661 : decode cL_law 661 = .ok (.pop, 1) := dr_87 (by decide +kernel)
set_option maxRecDepth 100000 in
theorem dL_law_662 : decode cL_law 662 = .ok (.aload_n 2, 1) := dr_44 (by decide +kernel)
set_option maxRecDepth 100000 in
theorem dL_law_663 : decode cL_law 663 = .ok (.aload_n 0, 1) := dr_42 (by decide +kernel)
set_option maxRecDepth 100000 in
theorem dL_law_664 : decode cL_law 664 = .ok (.iload 4, 2) := dr_21 (by decide +kernel)
set_option maxRecDepth 100000 in
theorem dL_law_666 : decode cL_law 666 = .ok (.iconst 1, 1) := dr_4 (by decide +kernel)
set_option maxRecDepth 100000 in
theorem dL_law_667 : decode cL_law 667 = .ok (.iadd, 1) := dr_96 (by decide +kernel)
set_option maxRecDepth 100000 in
theorem dL_law_668 : decode cL_law 668 = .ok (.iaload, 1) := dr_46 (by decide +kernel)
set_option maxRecDepth 100000 in
theorem dL_law_669 : decode cL_law 669 = .ok (.aload_n 0, 1) := dr_42 (by decide +kernel)
set_option maxRecDepth 100000 in
theorem dL_law_670 : decode cL_law 670 = .ok (.iload 4, 2) := dr_21 (by decide +kernel)
set_option maxRecDepth 100000 in
theorem dL_law_672 : decode cL_law 672 = .ok (.iconst 2, 1) := dr_5 (by decide +kernel)
set_option maxRecDepth 100000 in
theorem dL_law_673 : decode cL_law 673 = .ok (.iadd, 1) := dr_96 (by decide +kernel)
set_option maxRecDepth 100000 in
theorem dL_law_674 : decode cL_law 674 = .ok (.iaload, 1) := dr_46 (by decide +kernel)
set_option maxRecDepth 100000 in
theorem dL_law_675 : decode cL_law 675 = .ok (.aload_n 0, 1) := dr_42 (by decide +kernel)
set_option maxRecDepth 100000 in
theorem dL_law_676 : decode cL_law 676 = .ok (.iload 4, 2) := dr_21 (by decide +kernel)
set_option maxRecDepth 100000 in
theorem dL_law_678 : decode cL_law 678 = .ok (.iconst 3, 1) := dr_6 (by decide +kernel)
set_option maxRecDepth 100000 in
theorem dL_law_679 : decode cL_law 679 = .ok (.iadd, 1) := dr_96 (by decide +kernel)
set_option maxRecDepth 100000 in
theorem dL_law_680 : decode cL_law 680 = .ok (.iaload, 1) := dr_46 (by decide +kernel)
set_option maxRecDepth 100000 in
theorem dL_law_681 : decode cL_law 681 = .ok (.invokevirtual 86, 3) := dr_182 (by decide +kernel)
set_option maxRecDepth 100000 in
theorem dL_law_684 : decode cL_law 684 = .ok (.pop, 1) := dr_87 (by decide +kernel)
set_option maxRecDepth 100000 in
theorem dL_law_685 : decode cL_law 685 = .ok (.goto 865, 3) := dr_167 (by decide +kernel)
set_option maxRecDepth 100000 in
theorem dL_law_688 : decode cL_law 688 = .ok (.aload_n 1, 1) := dr_43 (by decide +kernel)
set_option maxRecDepth 100000 in
theorem dL_law_689 : decode cL_law 689 = .ok (.aload_n 0, 1) := dr_42 (by decide +kernel)
set_option maxRecDepth 100000 in
theorem dL_law_690 : decode cL_law 690 = .ok (.iload 4, 2) := dr_21 (by decide +kernel)
set_option maxRecDepth 100000 in
theorem dL_law_692 : decode cL_law 692 = .ok (.iconst 1, 1) := dr_4 (by decide +kernel)
set_option maxRecDepth 100000 in
theorem dL_law_693 : decode cL_law 693 = .ok (.iadd, 1) := dr_96 (by decide +kernel)
set_option maxRecDepth 100000 in
theorem dL_law_694 : decode cL_law 694 = .ok (.iaload, 1) := dr_46 (by decide +kernel)
set_option maxRecDepth 100000 in
theorem dL_law_695 : decode cL_law 695 = .ok (.aload_n 0, 1) := dr_42 (by decide +kernel)
set_option maxRecDepth 100000 in
theorem dL_law_696 : decode cL_law 696 = .ok (.iload 4, 2) := dr_21 (by decide +kernel)
set_option maxRecDepth 100000 in
theorem dL_law_698 : decode cL_law 698 = .ok (.iconst 2, 1) := dr_5 (by decide +kernel)
set_option maxRecDepth 100000 in
theorem dL_law_699 : decode cL_law 699 = .ok (.iadd, 1) := dr_96 (by decide +kernel)
set_option maxRecDepth 100000 in
theorem dL_law_700 : decode cL_law 700 = .ok (.iaload, 1) := dr_46 (by decide +kernel)
set_option maxRecDepth 100000 in
theorem dL_law_701 : decode cL_law 701 = .ok (.invokevirtual 87, 3) := dr_182 (by decide +kernel)
set_option maxRecDepth 100000 in
theorem dL_law_704 : decode cL_law 704 = .ok (.pop, 1) := dr_87 (by decide +kernel)
set_option maxRecDepth 100000 in
theorem dL_law_705 : decode cL_law 705 = .ok (.aload_n 2, 1) := dr_44 (by decide +kernel)
set_option maxRecDepth 100000 in
theorem dL_law_706 : decode cL_law 706 = .ok (.aload_n 0, 1) := dr_42 (by decide +kernel)
set_option maxRecDepth 100000 in
theorem dL_law_707 : decode cL_law 707 = .ok (.iload 4, 2) := dr_21 (by decide +kernel)
set_option maxRecDepth 100000 in
theorem dL_law_709 : decode cL_law 709 = .ok (.iconst 1, 1) := dr_4 (by decide +kernel)
set_option maxRecDepth 100000 in
theorem dL_law_710 : decode cL_law 710 = .ok (.iadd, 1) := dr_96 (by decide +kernel)
set_option maxRecDepth 100000 in
theorem dL_law_711 : decode cL_law 711 = .ok (.iaload, 1) := dr_46 (by decide +kernel)
set_option maxRecDepth 100000 in
theorem dL_law_712 : decode cL_law 712 = .ok (.aload_n 0, 1) := dr_42 (by decide +kernel)
set_option maxRecDepth 100000 in
theorem dL_law_713 : decode cL_law 713 = .ok (.iload 4, 2) := dr_21 (by decide +kernel)
set_option maxRecDepth 100000 in
theorem dL_law_715 : decode cL_law 715 = .ok (.iconst 2, 1) := dr_5 (by decide +kernel)
set_option maxRecDepth 100000 in
theorem dL_law_716 : decode cL_law 716 = .ok (.iadd, 1) := dr_96 (by decide +kernel)
set_option maxRecDepth 100000 in
theorem dL_law_717 : decode cL_law 717 = .ok (.iaload, 1) := dr_46 (by decide +kernel)
set_option maxRecDepth 100000 in
theorem dL_law_718 : decode cL_law 718 = .ok (.invokevirtual 90, 3) := dr_182 (by decide +kernel)
set_option maxRecDepth 100000 in
theorem dL_law_721 : decode cL_law 721 = .ok (.pop, 1) := dr_87 (by decide +kernel)
set_option maxRecDepth 100000 in
theorem dL_law_722 : decode cL_law 722 = .ok (.goto 828, 3) := dr_167 (by decide +kernel)
set_option maxRecDepth 100000 in
theorem dL_law_725 : decode cL_law 725 = .ok (.aload_n 1, 1) := dr_43 (by decide +kernel)
set_option maxRecDepth 100000 in
theorem dL_law_726 : decode cL_law 726 = .ok (.aload_n 0, 1) := dr_42 (by decide +kernel)
set_option maxRecDepth 100000 in
theorem dL_law_727 : decode cL_law 727 = .ok (.iload 4, 2) := dr_21 (by decide +kernel)
set_option maxRecDepth 100000 in
theorem dL_law_729 : decode cL_law 729 = .ok (.iconst 1, 1) := dr_4 (by decide +kernel)
set_option maxRecDepth 100000 in
theorem dL_law_730 : decode cL_law 730 = .ok (.iadd, 1) := dr_96 (by decide +kernel)
set_option maxRecDepth 100000 in
theorem dL_law_731 : decode cL_law 731 = .ok (.iaload, 1) := dr_46 (by decide +kernel)
set_option maxRecDepth 100000 in
theorem dL_law_732 : decode cL_law 732 = .ok (.aload_n 0, 1) := dr_42 (by decide +kernel)
set_option maxRecDepth 100000 in
theorem dL_law_733 : decode cL_law 733 = .ok (.iload 4, 2) := dr_21 (by decide +kernel)
set_option maxRecDepth 100000 in
theorem dL_law_735 : decode cL_law 735 = .ok (.iconst 2, 1) := dr_5 (by decide +kernel)
set_option maxRecDepth 100000 in
theorem dL_law_736 : decode cL_law 736 = .ok (.iadd, 1) := dr_96 (by decide +kernel)
set_option maxRecDepth 100000 in
theorem dL_law_737 : decode cL_law 737 = .ok (.iaload, 1) := dr_46 (by decide +kernel)
set_option maxRecDepth 100000 in
theorem dL_law_738 : decode cL_law 738 = .ok (.aload_n 0, 1) := dr_42 (by decide +kernel)
set_option maxRecDepth 100000 in
theorem dL_law_739 : decode cL_law 739 = .ok (.iload 4, 2) := dr_21 (by decide +kernel)
set_option maxRecDepth 100000 in
theorem dL_law_741 : decode cL_law 741 = .ok (.iconst 3, 1) := dr_6 (by decide +kernel)
set_option maxRecDepth 100000 in
theorem dL_law_742 : decode cL_law 742 = .ok (.iadd, 1) := dr_96 (by decide +kernel)
set_option maxRecDepth 100000 in
theorem dL_law_743 : decode cL_law 743 = .ok (.iaload, 1) := dr_46 (by decide +kernel)
set_option maxRecDepth 100000 in
theorem dL_law_744 : decode cL_law 744 = .ok (.invokevirtual 91, 3) := dr_182 (by decide +kernel)
set_option maxRecDepth 100000 in
theorem dL_law_747 : decode cL_law 747 = .ok (.pop, 1) := dr_87 (by decide +kernel)
set_option maxRecDepth 100000 in
theorem dL_law_748 : decode cL_law 748 = .ok (.aload_n 2, 1) := dr_44 (by decide +kernel)
set_option maxRecDepth 100000 in
theorem dL_law_749 : decode cL_law 749 = .ok (.aload_n 0, 1) := dr_42 (by decide +kernel)
set_option maxRecDepth 100000 in
theorem dL_law_750 : decode cL_law 750 = .ok (.iload 4, 2) := dr_21 (by decide +kernel)
set_option maxRecDepth 100000 in
theorem dL_law_752 : decode cL_law 752 = .ok (.iconst 1, 1) := dr_4 (by decide +kernel)
set_option maxRecDepth 100000 in
theorem dL_law_753 : decode cL_law 753 = .ok (.iadd, 1) := dr_96 (by decide +kernel)
set_option maxRecDepth 100000 in
theorem dL_law_754 : decode cL_law 754 = .ok (.iaload, 1) := dr_46 (by decide +kernel)
set_option maxRecDepth 100000 in
theorem dL_law_755 : decode cL_law 755 = .ok (.aload_n 0, 1) := dr_42 (by decide +kernel)
set_option maxRecDepth 100000 in
theorem dL_law_756 : decode cL_law 756 = .ok (.iload 4, 2) := dr_21 (by decide +kernel)
set_option maxRecDepth 100000 in
theorem dL_law_758 : decode cL_law 758 = .ok (.iconst 2, 1) := dr_5 (by decide +kernel)
set_option maxRecDepth 100000 in
theorem dL_law_759 : decode cL_law 759 = .ok (.iadd, 1) := dr_96 (by decide +kernel)
set_option maxRecDepth 100000 in
theorem dL_law_760 : decode cL_law 760 = .ok (.iaload, 1) := dr_46 (by decide +kernel)
set_option maxRecDepth 100000 in
theorem dL_law_761 : decode cL_law 761 = .ok (.aload_n 0, 1) := dr_42 (by decide +kernel)
set_option maxRecDepth 100000 in
theorem dL_law_762 : decode cL_law 762 = .ok (.iload 4, 2) := dr_21 (by decide +kernel)
set_option maxRecDepth 100000 in
theorem dL_law_764 : decode cL_law 764 = .ok (.iconst 3, 1) := dr_6 (by decide +kernel)
set_option maxRecDepth 100000 in
theorem dL_law_765 : decode cL_law 765 = .ok (.iadd, 1) := dr_96 (by decide +kernel)
set_option maxRecDepth 100000 in
theorem dL_law_766 : decode cL_law 766 = .ok (.iaload, 1) := dr_46 (by decide +kernel)
set_option maxRecDepth 100000 in
theorem dL_law_767 : decode cL_law 767 = .ok (.invokevirtual 94, 3) := dr_182 (by decide +kernel)
set_option maxRecDepth 100000 in
theorem dL_law_770 : decode cL_law 770 = .ok (.pop, 1) := dr_87 (by decide +kernel)
set_option maxRecDepth 100000 in
theorem dL_law_771 : decode cL_law 771 = .ok (.goto 779, 3) := dr_167 (by decide +kernel)
set_option maxRecDepth 100000 in
theorem dL_law_774 : decode cL_law 774 = .ok (.aload_n 1, 1) := dr_43 (by decide +kernel)
set_option maxRecDepth 100000 in
theorem dL_law_775 : decode cL_law 775 = .ok (.invokevirtual 95, 3) := dr_182 (by decide +kernel)
set_option maxRecDepth 100000 in
theorem dL_law_778 : decode cL_law 778 = .ok (.pop, 1) := dr_87 (by decide +kernel)
set_option maxRecDepth 100000 in
theorem dL_law_779 : decode cL_law 779 = .ok (.aload_n 2, 1) := dr_44 (by decide +kernel)
set_option maxRecDepth 100000 in
theorem dL_law_780 : decode cL_law 780 = .ok (.invokevirtual 98, 3) := dr_182 (by decide +kernel)
set_option maxRecDepth 100000 in
theorem dL_law_783 : decode cL_law 783 = .ok (.pop, 1) := dr_87 (by decide +kernel)
set_option maxRecDepth 100000 in
theorem dL_law_784 : decode cL_law 784 = .ok (.goto 766, 3) := dr_167 (by decide +kernel)
set_option maxRecDepth 100000 in
theorem dL_law_787 : decode cL_law 787 = .ok (.aload_n 1, 1) := dr_43 (by decide +kernel)
set_option maxRecDepth 100000 in
theorem dL_law_788 : decode cL_law 788 = .ok (.aload_n 0, 1) := dr_42 (by decide +kernel)
set_option maxRecDepth 100000 in
theorem dL_law_789 : decode cL_law 789 = .ok (.iload 4, 2) := dr_21 (by decide +kernel)
set_option maxRecDepth 100000 in
theorem dL_law_791 : decode cL_law 791 = .ok (.iconst 1, 1) := dr_4 (by decide +kernel)
set_option maxRecDepth 100000 in
theorem dL_law_792 : decode cL_law 792 = .ok (.iadd, 1) := dr_96 (by decide +kernel)
set_option maxRecDepth 100000 in
theorem dL_law_793 : decode cL_law 793 = .ok (.iaload, 1) := dr_46 (by decide +kernel)
set_option maxRecDepth 100000 in
theorem dL_law_794 : decode cL_law 794 = .ok (.aload_n 0, 1) := dr_42 (by decide +kernel)
set_option maxRecDepth 100000 in
theorem dL_law_795 : decode cL_law 795 = .ok (.iload 4, 2) := dr_21 (by decide +kernel)
set_option maxRecDepth 100000 in
theorem dL_law_797 : decode cL_law 797 = .ok (.iconst 2, 1) := dr_5 (by decide +kernel)
set_option maxRecDepth 100000 in
theorem dL_law_798 : decode cL_law 798 = .ok (.iadd, 1) := dr_96 (by decide +kernel)
set_option maxRecDepth 100000 in
theorem dL_law_799 : decode cL_law 799 = .ok (.iaload, 1) := dr_46 (by decide +kernel)
set_option maxRecDepth 100000 in
theorem dL_law_800 : decode cL_law 800 = .ok (.invokevirtual 99, 3) := dr_182 (by decide +kernel)
set_option maxRecDepth 100000 in
theorem dL_law_803 : decode cL_law 803 = .ok (.pop, 1) := dr_87 (by decide +kernel)
set_option maxRecDepth 100000 in
theorem dL_law_804 : decode cL_law 804 = .ok (.aload_n 2, 1) := dr_44 (by decide +kernel)
set_option maxRecDepth 100000 in
theorem dL_law_805 : decode cL_law 805 = .ok (.aload_n 0, 1) := dr_42 (by decide +kernel)
set_option maxRecDepth 100000 in
theorem dL_law_806 : decode cL_law 806 = .ok (.iload 4, 2) := dr_21 (by decide +kernel)
set_option maxRecDepth 100000 in
theorem dL_law_808 : decode cL_law 808 = .ok (.iconst 1, 1) := dr_4 (by decide +kernel)
set_option maxRecDepth 100000 in
theorem dL_law_809 : decode cL_law 809 = .ok (.iadd, 1) := dr_96 (by decide +kernel)
set_option maxRecDepth 100000 in
theorem dL_law_810 : decode cL_law 810 = .ok (.iaload, 1) := dr_46 (by decide +kernel)
set_option maxRecDepth 100000 in
theorem dL_law_811 : decode cL_law 811 = .ok (.aload_n 0, 1) := dr_42 (by decide +kernel)
set_option maxRecDepth 100000 in
theorem dL_law_812 : decode cL_law 812 = .ok (.iload 4, 2) := dr_21 (by decide +kernel)
set_option maxRecDepth 100000 in
theorem dL_law_814 : decode cL_law 814 = .ok (.iconst 2, 1) := dr_5 (by decide +kernel)
set_option maxRecDepth 100000 in
theorem dL_law_815 : decode cL_law 815 = .ok (.iadd, 1) := dr_96 (by decide +kernel)
set_option maxRecDepth 100000 in
theorem dL_law_816 : decode cL_law 816 = .ok (.iaload, 1) := dr_46 (by decide +kernel)
set_option maxRecDepth 100000 in
theorem dL_law_817 : decode cL_law 817 = .ok (.invokevirtual 102, 3) := dr_182 (by decide +kernel)
set_option maxRecDepth 100000 in
theorem dL_law_820 : decode cL_law 820 = .ok (.pop, 1) := dr_87 (by decide +kernel)
set_option maxRecDepth 100000 in
theorem dL_law_821 : decode cL_law 821 = .ok (.goto 729, 3) := dr_167 (by decide +kernel)
set_option maxRecDepth 100000 in
theorem dL_law_824 : decode cL_law 824 = .ok (.aload_n 1, 1) := dr_43 (by decide +kernel)
set_option maxRecDepth 100000 in
theorem dL_law_825 : decode cL_law 825 = .ok (.aload_n 0, 1) := dr_42 (by decide +kernel)
set_option maxRecDepth 100000 in
theorem dL_law_826 : decode cL_law 826 = .ok (.iload 4, 2) := dr_21 (by decide +kernel)
set_option maxRecDepth 100000 in
theorem dL_law_828 : decode cL_law 828 = .ok (.iconst 1, 1) := dr_4 (by decide +kernel)
set_option maxRecDepth 100000 in
theorem dL_law_829 : decode cL_law 829 = .ok (.iadd, 1) := dr_96 (by decide +kernel)
set_option maxRecDepth 100000 in
theorem dL_law_830 : decode cL_law 830 = .ok (.iaload, 1) := dr_46 (by decide +kernel)
set_option maxRecDepth 100000 in
theorem dL_law_831 : decode cL_law 831 = .ok (.invokevirtual 103, 3) := dr_182 (by decide +kernel)
set_option maxRecDepth 100000 in
theorem dL_law_834 : decode cL_law 834 = .ok (.pop, 1) := dr_87 (by decide +kernel)
set_option maxRecDepth 100000 in
theorem dL_law_835 : decode cL_law 835 = .ok (.aload_n 2, 1) := dr_44 (by decide +kernel)
set_option maxRecDepth 100000 in
theorem dL_law_836 : decode cL_law 836 = .ok (.aload_n 0, 1) := dr_42 (by decide +kernel)
set_option maxRecDepth 100000 in
theorem dL_law_837 : decode cL_law 837 = .ok (.iload 4, 2) := dr_21 (by decide +kernel)
set_option maxRecDepth 100000 in
theorem dL_law_839 : decode cL_law 839 = .ok (.iconst 1, 1) := dr_4 (by decide +kernel)
set_option maxRecDepth 100000 in
theorem dL_law_840 : decode cL_law 840 = .ok (.iadd, 1) := dr_96 (by decide +kernel)
set_option maxRecDepth 100000 in
theorem dL_law_841 : decode cL_law 841 = .ok (.iaload, 1) := dr_46 (by decide +kernel)
set_option maxRecDepth 100000 in
theorem dL_law_842 : decode cL_law 842 = .ok (.invokevirtual 106, 3) := dr_182 (by decide +kernel)
set_option maxRecDepth 100000 in
theorem dL_law_845 : decode cL_law 845 = .ok (.pop, 1) := dr_87 (by decide +kernel)
set_option maxRecDepth 100000 in
theorem dL_law_846 : decode cL_law 846 = .ok (.goto 704, 3) := dr_167 (by decide +kernel)
set_option maxRecDepth 100000 in
theorem dL_law_849 : decode cL_law 849 = .ok (.aload_n 1, 1) := dr_43 (by decide +kernel)
set_option maxRecDepth 100000 in
theorem dL_law_850 : decode cL_law 850 = .ok (.aload_n 0, 1) := dr_42 (by decide +kernel)
set_option maxRecDepth 100000 in
theorem dL_law_851 : decode cL_law 851 = .ok (.iload 4, 2) := dr_21 (by decide +kernel)
set_option maxRecDepth 100000 in
theorem dL_law_853 : decode cL_law 853 = .ok (.iconst 1, 1) := dr_4 (by decide +kernel)
set_option maxRecDepth 100000 in
theorem dL_law_854 : decode cL_law 854 = .ok (.iadd, 1) := dr_96 (by decide +kernel)
set_option maxRecDepth 100000 in
theorem dL_law_855 : decode cL_law 855 = .ok (.iaload, 1) := dr_46 (by decide +kernel)
set_option maxRecDepth 100000 in
theorem dL_law_856 : decode cL_law 856 = .ok (.invokevirtual 107, 3) := dr_182 (by decide +kernel)
set_option maxRecDepth 100000 in
theorem dL_law_859 : decode cL_law 859 = .ok (.pop, 1) := dr_87 (by decide +kernel)
set_option maxRecDepth 100000 in
theorem dL_law_860 : decode cL_law 860 = .ok (.aload_n 2, 1) := dr_44 (by decide +kernel)
set_option maxRecDepth 100000 in
theorem dL_law_861 : decode cL_law 861 = .ok (.aload_n 0, 1) := dr_42 (by decide +kernel)
set_option maxRecDepth 100000 in
theorem dL_law_862 : decode cL_law 862 = .ok (.iload 4, 2) := dr_21 (by decide +kernel)
set_option maxRecDepth 100000 in
theorem dL_law_864 : decode cL_law 864 = .ok (.iconst 1, 1) := dr_4 (by decide +kernel)
set_option maxRecDepth 100000 in
theorem dL_law_865 : decode cL_law 865 = .ok (.iadd, 1) := dr_96 (by decide +kernel)
set_option maxRecDepth 100000 in
theorem dL_law_866 : decode cL_law 866 = .ok (.iaload, 1) := dr_46 (by decide +kernel)
set_option maxRecDepth 100000 in
theorem dL_law_867 : decode cL_law 867 = .ok (.invokevirtual 110, 3) := dr_182 (by decide +kernel)
set_option maxRecDepth 100000 in
theorem dL_law_870 : decode cL_law 870 = .ok (.pop, 1) := dr_87 (by decide +kernel)
set_option maxRecDepth 100000 in
theorem dL_law_871 : decode cL_law 871 = .ok (.goto 679, 3) := dr_167 (by decide +kernel)
set_option maxRecDepth 100000 in
theorem dL_law_874 : decode cL_law 874 = .ok (.aload_n 1, 1) := dr_43 (by decide +kernel)
set_option maxRecDepth 100000 in
theorem dL_law_875 : decode cL_law 875 = .ok (.invokevirtual 111, 3) := dr_182 (by decide +kernel)
set_option maxRecDepth 100000 in
theorem dL_law_878 : decode cL_law 878 = .ok (.pop, 1) := dr_87 (by decide +kernel)
set_option maxRecDepth 100000 in
theorem dL_law_879 : decode cL_law 879 = .ok (.aload_n 2, 1) := dr_44 (by decide +kernel)
set_option maxRecDepth 100000 in
theorem dL_law_880 : decode cL_law 880 = .ok (.invokevirtual 114, 3) := dr_182 (by decide +kernel)
set_option maxRecDepth 100000 in
theorem dL_law_883 : decode cL_law 883 = .ok (.pop, 1) := dr_87 (by decide +kernel)
set_option maxRecDepth 100000 in
theorem dL_law_884 : decode cL_law 884 = .ok (.goto 666, 3) := dr_167 (by decide +kernel)
set_option maxRecDepth 100000 in
theorem dL_law_887 : decode cL_law 887 = .ok (.aload_n 1, 1) := dr_43 (by decide +kernel)
set_option maxRecDepth 100000 in
theorem dL_law_888 : decode cL_law 888 = .ok (.aload_n 0, 1) := dr_42 (by decide +kernel)
set_option maxRecDepth 100000 in
theorem dL_law_889 : decode cL_law 889 = .ok (.iload 4, 2) := dr_21 (by decide +kernel)
set_option maxRecDepth 100000 in
theorem dL_law_891 : decode cL_law 891 = .ok (.iconst 1, 1) := dr_4 (by decide +kernel)
set_option maxRecDepth 100000 in
theorem dL_law_892 : decode cL_law 892 = .ok (.iadd, 1) := dr_96 (by decide +kernel)
set_option maxRecDepth 100000 in
theorem dL_law_893 : decode cL_law 893 = .ok (.iaload, 1) := dr_46 (by decide +kernel)
set_option maxRecDepth 100000 in
theorem dL_law_894 : decode cL_law 894 = .ok (.invokevirtual 115, 3) := dr_182 (by decide +kernel)
set_option maxRecDepth 100000 in
theorem dL_law_897 : decode cL_law 897 = .ok (.pop, 1) := dr_87 (by decide +kernel)
set_option maxRecDepth 100000 in
theorem dL_law_898 : decode cL_law 898 = .ok (.aload_n 2, 1) := dr_44 (by decide +kernel)
set_option maxRecDepth 100000 in
theorem dL_law_899 : decode cL_law 899 = .ok (.aload_n 0, 1) := dr_42 (by decide +kernel)
set_option maxRecDepth 100000 in
theorem dL_law_900 : decode cL_law 900 = .ok (.iload 4, 2) := dr_21 (by decide +kernel)
set_option maxRecDepth 100000 in
theorem dL_law_902 : decode cL_law 902 = .ok (.iconst 1, 1) := dr_4 (by decide +kernel)
set_option maxRecDepth 100000 in
theorem dL_law_903 : decode cL_law 903 = .ok (.iadd, 1) := dr_96 (by decide +kernel)
set_option maxRecDepth 100000 in
theorem dL_law_904 : decode cL_law 904 = .ok (.iaload, 1) := dr_46 (by decide +kernel)
set_option maxRecDepth 100000 in
theorem dL_law_905 : decode cL_law 905 = .ok (.invokevirtual 118, 3) := dr_182 (by decide +kernel)
set_option maxRecDepth 100000 in
theorem dL_law_908 : decode cL_law 908 = .ok (.pop, 1) := dr_87 (by decide +kernel)
set_option maxRecDepth 100000 in
theorem dL_law_909 : decode cL_law 909 = .ok (.goto 641, 3) := dr_167 (by decide +kernel)
set_option maxRecDepth 100000 in
theorem dL_law_912 : decode cL_law 912 = .ok (.aload_n 1, 1) := dr_43 (by decide +kernel)
set_option maxRecDepth 100000 in
theorem dL_law_913 : decode cL_law 913 = .ok (.invokevirtual 119, 3) := dr_182 (by decide +kernel)
set_option maxRecDepth 100000 in
theorem dL_law_916 : decode cL_law 916 = .ok (.pop, 1) := dr_87 (by decide +kernel)
set_option maxRecDepth 100000 in
theorem dL_law_917 : decode cL_law 917 = .ok (.aload_n 2, 1) := dr_44 (by decide +kernel)
set_option maxRecDepth 100000 in
theorem dL_law_918 : decode cL_law 918 = .ok (.invokevirtual 122, 3) := dr_182 (by decide +kernel)
set_option maxRecDepth 100000 in
theorem dL_law_921 : decode cL_law 921 = .ok (.pop, 1) := dr_87 (by decide +kernel)
set_option maxRecDepth 100000 in
theorem dL_law_922 : decode cL_law 922 = .ok (.goto 628, 3) := dr_167 (by decide +kernel)
set_option maxRecDepth 100000 in
theorem dL_law_925 : decode cL_law 925 = .ok (.aload_n 1, 1) := dr_43 (by decide +kernel)
set_option maxRecDepth 100000 in
theorem dL_law_926 : decode cL_law 926 = .ok (.invokevirtual 123, 3) := dr_182 (by decide +kernel)
set_option maxRecDepth 100000 in
theorem dL_law_929 : decode cL_law 929 = .ok (.pop, 1) := dr_87 (by decide +kernel)
set_option maxRecDepth 100000 in
theorem dL_law_930 : decode cL_law 930 = .ok (.aload_n 2, 1) := dr_44 (by decide +kernel)
set_option maxRecDepth 100000 in
theorem dL_law_931 : decode cL_law 931 = .ok (.invokevirtual 126, 3) := dr_182 (by decide +kernel)
set_option maxRecDepth 100000 in
theorem dL_law_934 : decode cL_law 934 = .ok (.pop, 1) := dr_87 (by decide +kernel)
set_option maxRecDepth 100000 in
theorem dL_law_935 : decode cL_law 935 = .ok (.goto 615, 3) := dr_167 (by decide +kernel)
set_option maxRecDepth 100000 in
theorem dL_law_938 : decode cL_law 938 = .ok (.aload_n 1, 1) := dr_43 (by decide +kernel)
set_option maxRecDepth 100000 in
theorem dL_law_939 : decode cL_law 939 = .ok (.invokevirtual 127, 3) := dr_182 (by decide +kernel)
set_option maxRecDepth 100000 in
theorem dL_law_942 : decode cL_law 942 = .ok (.pop, 1) := dr_87 (by decide +kernel)
set_option maxRecDepth 100000 in
theorem dL_law_943 : decode cL_law 943 = .ok (.aload_n 2, 1) := dr_44 (by decide +kernel)
set_option maxRecDepth 100000 in
theorem dL_law_944 : decode cL_law 944 = .ok (.invokevirtual 130, 3) := dr_182 (by decide +kernel)
set_option maxRecDepth 100000 in
theorem dL_law_947 : decode cL_law 947 = .ok (.pop, 1) := dr_87 (by decide +kernel)
set_option maxRecDepth 100000 in
theorem dL_law_948 : decode cL_law 948 = .ok (.goto 602, 3) := dr_167 (by decide +kernel)
set_option maxRecDepth 100000 in
theorem dL_law_951 : decode cL_law 951 = .ok (.aload_n 1, 1) := dr_43 (by decide +kernel)
set_option maxRecDepth 100000 in
theorem dL_law_952 : decode cL_law 952 = .ok (.aload_n 0, 1) := dr_42 (by decide +kernel)
set_option maxRecDepth 100000 in
theorem dL_law_953 : decode cL_law 953 = .ok (.iload 4, 2) := dr_21 (by decide +kernel)
set_option maxRecDepth 100000 in
theorem dL_law_955 : decode cL_law 955 = .ok (.iconst 1, 1) := dr_4 (by decide +kernel)
set_option maxRecDepth 100000 in
theorem dL_law_956 : decode cL_law 956 = .ok (.iadd, 1) := dr_96 (by decide +kernel)
set_option maxRecDepth 100000 in
theorem dL_law_957 : decode cL_law 957 = .ok (.iaload, 1) := dr_46 (by decide +kernel)
set_option maxRecDepth 100000 in
theorem dL_law_958 : decode cL_law 958 = .ok (.aload_n 0, 1) := dr_42 (by decide +kernel)
set_option maxRecDepth 100000 in
theorem dL_law_959 : decode cL_law 959 = .ok (.iload 4, 2) := dr_21 (by decide +kernel)
set_option maxRecDepth 100000 in
theorem dL_law_961 : decode cL_law 961 = .ok (.iconst 2, 1) := dr_5 (by decide +kernel)
set_option maxRecDepth 100000 in
theorem dL_law_962 : decode cL_law 962 = .ok (.iadd, 1) := dr_96 (by decide +kernel)
set_option maxRecDepth 100000 in
theorem dL_law_963 : decode cL_law 963 = .ok (.iaload, 1) := dr_46 (by decide +kernel)
set_option maxRecDepth 100000 in
theorem dL_law_964 : decode cL_law 964 = .ok (.invokevirtual 131, 3) := dr_182 (by decide +kernel)
set_option maxRecDepth 100000 in
theorem dL_law_967 : decode cL_law 967 = .ok (.pop, 1) := dr_87 (by decide +kernel)
set_option maxRecDepth 100000 in
theorem dL_law_968 : decode cL_law 968 = .ok (.aload_n 2, 1) := dr_44 (by decide +kernel)
set_option maxRecDepth 100000 in
theorem dL_law_969 : decode cL_law 969 = .ok (.aload_n 0, 1) := dr_42 (by decide +kernel)
set_option maxRecDepth 100000 in
theorem dL_law_970 : decode cL_law 970 = .ok (.iload 4, 2) := dr_21 (by decide +kernel)
set_option maxRecDepth 100000 in
theorem dL_law_972 : decode cL_law 972 = .ok (.iconst 1, 1) := dr_4 (by decide +kernel)
set_option maxRecDepth 100000 in
theorem dL_law_973 : decode cL_law 973 = .ok (.iadd, 1) := dr_96 (by decide +kernel)
set_option maxRecDepth 100000 in
theorem dL_law_974 : decode cL_law 974 = .ok (.iaload, 1) := dr_46 (by decide +kernel)
set_option maxRecDepth 100000 in
theorem dL_law_975 : decode cL_law 975 = .ok (.aload_n 0, 1) := dr_42 (by decide +kernel)
set_option maxRecDepth 100000 in
theorem dL_law_976 : decode cL_law 976 = .ok (.iload 4, 2) := dr_21 (by decide +kernel)
set_option maxRecDepth 100000 in
theorem dL_law_978 : decode cL_law 978 = .ok (.iconst 2, 1) := dr_5 (by decide +kernel)
set_option maxRecDepth 100000 in
theorem dL_law_979 : decode cL_law 979 = .ok (.iadd, 1) := dr_96 (by decide +kernel)
set_option maxRecDepth 100000 in
theorem dL_law_980 : decode cL_law 980 = .ok (.iaload, 1) := dr_46 (by decide +kernel)
set_option maxRecDepth 100000 in
theorem dL_law_981 : decode cL_law 981 = .ok (.invokevirtual 134, 3) := dr_182 (by decide +kernel)
set_option maxRecDepth 100000 in
theorem dL_law_984 : decode cL_law 984 = .ok (.pop, 1) := dr_87 (by decide +kernel)
set_option maxRecDepth 100000 in
theorem dL_law_985 : decode cL_law 985 = .ok (.goto 565, 3) := dr_167 (by decide +kernel)
set_option maxRecDepth 100000 in
theorem dL_law_988 : decode cL_law 988 = .ok (.aload_n 1, 1) := dr_43 (by decide +kernel)
set_option maxRecDepth 100000 in
theorem dL_law_989 : decode cL_law 989 = .ok (.aload_n 0, 1) := dr_42 (by decide +kernel)
set_option maxRecDepth 100000 in
theorem dL_law_990 : decode cL_law 990 = .ok (.iload 4, 2) := dr_21 (by decide +kernel)
set_option maxRecDepth 100000 in
theorem dL_law_992 : decode cL_law 992 = .ok (.iconst 1, 1) := dr_4 (by decide +kernel)
set_option maxRecDepth 100000 in
theorem dL_law_993 : decode cL_law 993 = .ok (.iadd, 1) := dr_96 (by decide +kernel)
set_option maxRecDepth 100000 in
theorem dL_law_994 : decode cL_law 994 = .ok (.iaload, 1) := dr_46 (by decide +kernel)
set_option maxRecDepth 100000 in
theorem dL_law_995 : decode cL_law 995 = .ok (.aload_n 0, 1) := dr_42 (by decide +kernel)
set_option maxRecDepth 100000 in
theorem dL_law_996 : decode cL_law 996 = .ok (.iload 4, 2) := dr_21 (by decide +kernel)
set_option maxRecDepth 100000 in
theorem dL_law_998 : decode cL_law 998 = .ok (.iconst 2, 1) := dr_5 (by decide +kernel)
set_option maxRecDepth 100000 in
theorem dL_law_999 : decode cL_law 999 = .ok (.iadd, 1) := dr_96 (by decide +kernel)
set_option maxRecDepth 100000 in
theorem dL_law_1000 : decode cL_law 1000 = .ok (.iaload, 1) := dr_46 (by decide +kernel)
set_option maxRecDepth 100000 in
theorem dL_law_1001 : decode cL_law 1001 = .ok (.aload_n 0, 1) := dr_42 (by decide +kernel)
set_option maxRecDepth 100000 in
theorem dL_law_1002 : decode cL_law 1002 = .ok (.iload 4, 2) := dr_21 (by decide +kernel)
set_option maxRecDepth 100000 in
theorem dL_law_1004 : decode cL_law 1004 = .ok (.iconst 3, 1) := dr_6 (by decide +kernel)
set_option maxRecDepth 100000 in
theorem dL_law_1005 : decode cL_law 1005 = .ok (.iadd, 1) := dr_96 (by decide +kernel)
set_option maxRecDepth 100000 in
theorem dL_law_1006 : decode cL_law 1006 = .ok (.iaload, 1) := dr_46 (by decide +kernel)
set_option maxRecDepth 100000 in
theorem dL_law_1007 : decode cL_law 1007 = .ok (.invokevirtual 135, 3) := dr_182 (by decide +kernel)
set_option maxRecDepth 100000 in
theorem dL_law_1010 : decode cL_law 1010 = .ok (.pop, 1) := dr_87 (by decide +kernel)
set_option maxRecDepth 100000 in
theorem dL_law_1011 : decode cL_law 1011 = .ok (.aload_n 2, 1) := dr_44 (by decide +kernel)
set_option maxRecDepth 100000 in
theorem dL_law_1012 : decode cL_law 1012 = .ok (.aload_n 0, 1) := dr_42 (by decide +kernel)
set_option maxRecDepth 100000 in
theorem dL_law_1013 : decode cL_law 1013 = .ok (.iload 4, 2) := dr_21 (by decide +kernel)
set_option maxRecDepth 100000 in
theorem dL_law_1015 : decode cL_law 1015 = .ok (.iconst 1, 1) := dr_4 (by decide +kernel)
set_option maxRecDepth 100000 in
theorem dL_law_1016 : decode cL_law 1016 = .ok (.iadd, 1) := dr_96 (by decide +kernel)
set_option maxRecDepth 100000 in
theorem dL_law_1017 : decode cL_law 1017 = .ok (.iaload, 1) := dr_46 (by decide +kernel)
set_option maxRecDepth 100000 in
theorem dL_law_1018 : decode cL_law 1018 = .ok (.aload_n 0, 1) := dr_42 (by decide +kernel)
set_option maxRecDepth 100000 in
theorem dL_law_1019 : decode cL_law 1019 = .ok (.iload 4, 2) := dr_21 (by decide +kernel)
set_option maxRecDepth 100000 in
theorem dL_law_1021 : decode cL_law 1021 = .ok (.iconst 2, 1) := dr_5 (by decide +kernel)
set_option maxRecDepth 100000 in
theorem dL_law_1022 : decode cL_law 1022 = .ok (.iadd, 1) := dr_96 (by decide +kernel)
set_option maxRecDepth 100000 in
theorem dL_law_1023 : decode cL_law 1023 = .ok (.iaload, 1) := dr_46 (by decide +kernel)
set_option maxRecDepth 100000 in
theorem dL_law_1024 : decode cL_law 1024 = .ok (.aload_n 0, 1) := dr_42 (by decide +kernel)
set_option maxRecDepth 100000 in
theorem dL_law_1025 : decode cL_law 1025 = .ok (.iload 4, 2) := dr_21 (by decide +kernel)
set_option maxRecDepth 100000 in
theorem dL_law_1027 : decode cL_law 1027 = .ok (.iconst 3, 1) := dr_6 (by decide +kernel)
set_option maxRecDepth 100000 in
theorem dL_law_1028 : decode cL_law 1028 = .ok (.iadd, 1) := dr_96 (by decide +kernel)
set_option maxRecDepth 100000 in
theorem dL_law_1029 : decode cL_law 1029 = .ok (.iaload, 1) := dr_46 (by decide +kernel)
set_option maxRecDepth 100000 in
theorem dL_law_1030 : decode cL_law 1030 = .ok (.invokevirtual 138, 3) := dr_182 (by decide +kernel)
set_option maxRecDepth 100000 in
theorem dL_law_1033 : decode cL_law 1033 = .ok (.pop, 1) := dr_87 (by decide +kernel)
set_option maxRecDepth 100000 in
theorem dL_law_1034 : decode cL_law 1034 = .ok (.goto 516, 3) := dr_167 (by decide +kernel)
set_option maxRecDepth 100000 in
theorem dL_law_1037 : decode cL_law 1037 = .ok (.aload_n 1, 1) := dr_43 (by decide +kernel)
set_option maxRecDepth 100000 in
theorem dL_law_1038 : decode cL_law 1038 = .ok (.aload_n 0, 1) := dr_42 (by decide +kernel)
set_option maxRecDepth 100000 in
theorem dL_law_1039 : decode cL_law 1039 = .ok (.iload 4, 2) := dr_21 (by decide +kernel)
set_option maxRecDepth 100000 in
theorem dL_law_1041 : decode cL_law 1041 = .ok (.iconst 1, 1) := dr_4 (by decide +kernel)
set_option maxRecDepth 100000 in
theorem dL_law_1042 : decode cL_law 1042 = .ok (.iadd, 1) := dr_96 (by decide +kernel)
set_option maxRecDepth 100000 in
theorem dL_law_1043 : decode cL_law 1043 = .ok (.iaload, 1) := dr_46 (by decide +kernel)
set_option maxRecDepth 100000 in
theorem dL_law_1044 : decode cL_law 1044 = .ok (.aload_n 0, 1) := dr_42 (by decide +kernel)
set_option maxRecDepth 100000 in
theorem dL_law_1045 : decode cL_law 1045 = .ok (.iload 4, 2) := dr_21 (by decide +kernel)
set_option maxRecDepth 100000 in
theorem dL_law_1047 : decode cL_law 1047 = .ok (.iconst 2, 1) := dr_5 (by decide +kernel)
set_option maxRecDepth 100000 in
theorem dL_law_1048 : decode cL_law 1048 = .ok (.iadd, 1) := dr_96 (by decide +kernel)
set_option maxRecDepth 100000 in
theorem dL_law_1049 : decode cL_law 1049 = .ok (.iaload, 1) := dr_46 (by decide +kernel)
set_option maxRecDepth 100000 in
theorem dL_law_1050 : decode cL_law 1050 = .ok (.aload_n 0, 1) := dr_42 (by decide +kernel)
set_option maxRecDepth 100000 in
theorem dL_law_1051 : decode cL_law 1051 = .ok (.iload 4, 2) := dr_21 (by decide +kernel)
set_option maxRecDepth 100000 in
theorem dL_law_1053 : decode cL_law 1053 = .ok (.iconst 3, 1) := dr_6 (by decide +kernel)
set_option maxRecDepth 100000 in
theorem dL_law_1054 : decode cL_law 1054 = .ok (.iadd, 1) := dr_96 (by decide +kernel)
set_option maxRecDepth 100000 in
theorem dL_law_1055 : decode cL_law 1055 = .ok (.iaload, 1) := dr_46 (by decide +kernel)
set_option maxRecDepth 100000 in
theorem dL_law_1056 : decode cL_law 1056 = .ok (.invokevirtual 139, 3) := dr_182 (by decide +kernel)
set_option maxRecDepth 100000 in
theorem dL_law_1059 : decode cL_law 1059 = .ok (.pop, 1) := dr_87 (by decide +kernel)
set_option maxRecDepth 100000 in
theorem dL_law_1060 : decode cL_law 1060 = .ok (.aload_n 2, 1) := dr_44 (by decide +kernel)
set_option maxRecDepth 100000 in
theorem dL_law_1061 : decode cL_law 1061 = .ok (.aload_n 0, 1) := dr_42 (by decide +kernel)
set_option maxRecDepth 100000 in
theorem dL_law_1062 : decode cL_law 1062 = .ok (.iload 4, 2) := dr_21 (by decide +kernel)
set_option maxRecDepth 100000 in
theorem dL_law_1064 : decode cL_law 1064 = .ok (.iconst 1, 1) := dr_4 (by decide +kernel)
set_option maxRecDepth 100000 in
theorem dL_law_1065 : decode cL_law 1065 = .ok (.iadd, 1) := dr_96 (by decide +kernel)
set_option maxRecDepth 100000 in
theorem dL_law_1066 : decode cL_law 1066 = .ok (.iaload, 1) := dr_46 (by decide +kernel)
set_option maxRecDepth 100000 in
theorem dL_law_1067 : decode cL_law 1067 = .ok (.aload_n 0, 1) := dr_42 (by decide +kernel)
set_option maxRecDepth 100000 in
theorem dL_law_1068 : decode cL_law 1068 = .ok (.iload 4, 2) := dr_21 (by decide +kernel)
set_option maxRecDepth 100000 in
theorem dL_law_1070 : decode cL_law 1070 = .ok (.iconst 2, 1) := dr_5 (by decide +kernel)
set_option maxRecDepth 100000 in
theorem dL_law_1071 : decode cL_law 1071 = .ok (.iadd, 1) := dr_96 (by decide +kernel)
set_option maxRecDepth 100000 in
theorem dL_law_1072 : decode cL_law 1072 = .ok (.iaload, 1) := dr_46 (by decide +kernel)
set_option maxRecDepth 100000 in
theorem dL_law_1073 : decode cL_law 1073 = .ok (.aload_n 0, 1) := dr_42 (by decide +kernel)
set_option maxRecDepth 100000 in
theorem dL_law_1074 : decode cL_law 1074 = .ok (.iload 4, 2) := dr_21 (by decide +kernel)
set_option maxRecDepth 100000 in
theorem dL_law_1076 : decode cL_law 1076 = .ok (.iconst 3, 1) := dr_6 (by decide +kernel)
set_option maxRecDepth 100000 in
theorem dL_law_1077 : decode cL_law 1077 = .ok (.iadd, 1) := dr_96 (by decide +kernel)
set_option maxRecDepth 100000 in
theorem dL_law_1078 : decode cL_law 1078 = .ok (.iaload, 1) := dr_46 (by decide +kernel)
set_option maxRecDepth 100000 in
theorem dL_law_1079 : decode cL_law 1079 = .ok (.invokevirtual 142, 3) := dr_182 (by decide +kernel)
set_option maxRecDepth 100000 in
theorem dL_law_1082 : decode cL_law 1082 = .ok (.pop, 1) := dr_87 (by decide +kernel)
set_option maxRecDepth 100000 in
theorem dL_law_1083 : decode cL_law 1083 = .ok (.goto 467, 3) := dr_167 (by decide +kernel)
set_option maxRecDepth 100000 in
theorem dL_law_1086 : decode cL_law 1086 = .ok (.aload_n 1, 1) := dr_43 (by decide +kernel)
set_option maxRecDepth 100000 in
theorem dL_law_1087 : decode cL_law 1087 = .ok (.aload_n 0, 1) := dr_42 (by decide +kernel)
set_option maxRecDepth 100000 in
theorem dL_law_1088 : decode cL_law 1088 = .ok (.iload 4, 2) := dr_21 (by decide +kernel)
set_option maxRecDepth 100000 in
theorem dL_law_1090 : decode cL_law 1090 = .ok (.iconst 1, 1) := dr_4 (by decide +kernel)
set_option maxRecDepth 100000 in
theorem dL_law_1091 : decode cL_law 1091 = .ok (.iadd, 1) := dr_96 (by decide +kernel)
set_option maxRecDepth 100000 in
theorem dL_law_1092 : decode cL_law 1092 = .ok (.iaload, 1) := dr_46 (by decide +kernel)
set_option maxRecDepth 100000 in
theorem dL_law_1093 : decode cL_law 1093 = .ok (.invokevirtual 143, 3) := dr_182 (by decide +kernel)
set_option maxRecDepth 100000 in
theorem dL_law_1096 : decode cL_law 1096 = .ok (.pop, 1) := dr_87 (by decide +kernel)
set_option maxRecDepth 100000 in
theorem dL_law_1097 : decode cL_law 1097 = .ok (.aload_n 2, 1) := dr_44 (by decide +kernel)
set_option maxRecDepth 100000 in
theorem dL_law_1098 : decode cL_law 1098 = .ok (.aload_n 0, 1) := dr_42 (by decide +kernel)
set_option maxRecDepth 100000 in
theorem dL_law_1099 : decode cL_law 1099 = .ok (.iload 4, 2) := dr_21 (by decide +kernel)
set_option maxRecDepth 100000 in
theorem dL_law_1101 : decode cL_law 1101 = .ok (.iconst 1, 1) := dr_4 (by decide +kernel)
set_option maxRecDepth 100000 in
theorem dL_law_1102 : decode cL_law 1102 = .ok (.iadd, 1) := dr_96 (by decide +kernel)
set_option maxRecDepth 100000 in
theorem dL_law_1103 : decode cL_law 1103 = .ok (.iaload, 1) := dr_46 (by decide +kernel)
set_option maxRecDepth 100000 in
theorem dL_law_1104 : decode cL_law 1104 = .ok (.invokevirtual 146, 3) := dr_182 (by decide +kernel)
set_option maxRecDepth 100000 in
theorem dL_law_1107 : decode cL_law 1107 = .ok (.pop, 1) := dr_87 (by decide +kernel)
set_option maxRecDepth 100000 in
theorem dL_law_1108 : decode cL_law 1108 = .ok (.goto 442, 3) := dr_167 (by decide +kernel)
set_option maxRecDepth 100000 in
theorem dL_law_1111 : decode cL_law 1111 = .ok (.aload_n 1, 1) := dr_43 (by decide +kernel)
set_option maxRecDepth 100000 in
theorem dL_law_1112 : decode cL_law 1112 = .ok (.aload_n 0, 1) := dr_42 (by decide +kernel)
set_option maxRecDepth 100000 in
theorem dL_law_1113 : decode cL_law 1113 = .ok (.iload 4, 2) := dr_21 (by decide +kernel)
set_option maxRecDepth 100000 in
theorem dL_law_1115 : decode cL_law 1115 = .ok (.iconst 1, 1) := dr_4 (by decide +kernel)
set_option maxRecDepth 100000 in
theorem dL_law_1116 : decode cL_law 1116 = .ok (.iadd, 1) := dr_96 (by decide +kernel)
set_option maxRecDepth 100000 in
theorem dL_law_1117 : decode cL_law 1117 = .ok (.iaload, 1) := dr_46 (by decide +kernel)
set_option maxRecDepth 100000 in
theorem dL_law_1118 : decode cL_law 1118 = .ok (.aload_n 0, 1) := dr_42 (by decide +kernel)
set_option maxRecDepth 100000 in
theorem dL_law_1119 : decode cL_law 1119 = .ok (.iload 4, 2) := dr_21 (by decide +kernel)
set_option maxRecDepth 100000 in
theorem dL_law_1121 : decode cL_law 1121 = .ok (.iconst 2, 1) := dr_5 (by decide +kernel)
set_option maxRecDepth 100000 in
theorem dL_law_1122 : decode cL_law 1122 = .ok (.iadd, 1) := dr_96 (by decide +kernel)
set_option maxRecDepth 100000 in
theorem dL_law_1123 : decode cL_law 1123 = .ok (.iaload, 1) := dr_46 (by decide +kernel)
set_option maxRecDepth 100000 in
theorem dL_law_1124 : decode cL_law 1124 = .ok (.aload_n 0, 1) := dr_42 (by decide +kernel)
set_option maxRecDepth 100000 in
theorem dL_law_1125 : decode cL_law 1125 = .ok (.iload 4, 2) := dr_21 (by decide +kernel)
set_option maxRecDepth 100000 in
theorem dL_law_1127 : decode cL_law 1127 = .ok (.iconst 3, 1) := dr_6 (by decide +kernel)
set_option maxRecDepth 100000 in
theorem dL_law_1128 : decode cL_law 1128 = .ok (.iadd, 1) := dr_96 (by decide +kernel)
set_option maxRecDepth 100000 in
theorem dL_law_1129 : decode cL_law 1129 = .ok (.iaload, 1) := dr_46 (by decide +kernel)
set_option maxRecDepth 100000 in
theorem dL_law_1130 : decode cL_law 1130 = .ok (.invokevirtual 147, 3) := dr_182 (by decide +kernel)
set_option maxRecDepth 100000 in
theorem dL_law_1133 : decode cL_law 1133 = .ok (.pop, 1) := dr_87 (by decide +kernel)
set_option maxRecDepth 100000 in
theorem dL_law_1134 : decode cL_law 1134 = .ok (.aload_n 2, 1) := dr_44 (by decide +kernel)
set_option maxRecDepth 100000 in
theorem dL_law_1135 : decode cL_law 1135 = .ok (.aload_n 0, 1) := dr_42 (by decide +kernel)
set_option maxRecDepth 100000 in
theorem dL_law_1136 : decode cL_law 1136 = .ok (.iload 4, 2) := dr_21 (by decide +kernel)
set_option maxRecDepth 100000 in
theorem dL_law_1138 : decode cL_law 1138 = .ok (.iconst 1, 1) := dr_4 (by decide +kernel)
set_option maxRecDepth 100000 in
theorem dL_law_1139 : decode cL_law 1139 = .ok (.iadd, 1) := dr_96 (by decide +kernel)
set_option maxRecDepth 100000 in
theorem dL_law_1140 : decode cL_law 1140 = .ok (.iaload, 1) := dr_46 (by decide +kernel)
set_option maxRecDepth 100000 in
theorem dL_law_1141 : decode cL_law 1141 = .ok (.aload_n 0, 1) := dr_42 (by decide +kernel)
set_option maxRecDepth 100000 in
theorem dL_law_1142 : decode cL_law 1142 = .ok (.iload 4, 2) := dr_21 (by decide +kernel)
set_option maxRecDepth 100000 in
theorem dL_law_1144 : decode cL_law 1144 = .ok (.iconst 2, 1) := dr_5 (by decide +kernel)
set_option maxRecDepth 100000 in
theorem dL_law_1145 : decode cL_law 1145 = .ok (.iadd, 1) := dr_96 (by decide +kernel)
set_option maxRecDepth 100000 in
theorem dL_law_1146 : decode cL_law 1146 = .ok (.iaload, 1) := dr_46 (by decide +kernel)
set_option maxRecDepth 100000 in
theorem dL_law_1147 : decode cL_law 1147 = .ok (.aload_n 0, 1) := dr_42 (by decide +kernel)
set_option maxRecDepth 100000 in
theorem dL_law_1148 : decode cL_law 1148 = .ok (.iload 4, 2) := dr_21 (by decide +kernel)
set_option maxRecDepth 100000 in
theorem dL_law_1150 : decode cL_law 1150 = .ok (.iconst 3, 1) := dr_6 (by decide +kernel)
set_option maxRecDepth 100000 in
theorem dL_law_1151 : decode cL_law 1151 = .ok (.iadd, 1) := dr_96 (by decide +kernel)
set_option maxRecDepth 100000 in
theorem dL_law_1152 : decode cL_law 1152 = .ok (.iaload, 1) := dr_46 (by decide +kernel)
set_option maxRecDepth 100000 in
theorem dL_law_1153 : decode cL_law 1153 = .ok (.invokevirtual 150, 3) := dr_182 (by decide +kernel)
set_option maxRecDepth 100000 in
theorem dL_law_1156 : decode cL_law 1156 = .ok (.pop, 1) := dr_87 (by decide +kernel)
set_option maxRecDepth 100000 in
theorem dL_law_1157 : decode cL_law 1157 = .ok (.goto 393, 3) := dr_167 (by decide +kernel)
set_option maxRecDepth 100000 in
theorem dL_law_1160 : decode cL_law 1160 = .ok (.aload_n 1, 1) := dr_43 (by decide +kernel)
set_option maxRecDepth 100000 in
theorem dL_law_1161 : decode cL_law 1161 = .ok (.aload_n 0, 1) := dr_42 (by decide +kernel)
set_option maxRecDepth 100000 in
theorem dL_law_1162 : decode cL_law 1162 = .ok (.iload 4, 2) := dr_21 (by decide +kernel)
set_option maxRecDepth 100000 in
theorem dL_law_1164 : decode cL_law 1164 = .ok (.iconst 1, 1) := dr_4 (by decide +kernel)
set_option maxRecDepth 100000 in
theorem dL_law_1165 : decode cL_law 1165 = .ok (.iadd, 1) := dr_96 (by decide +kernel)
set_option maxRecDepth 100000 in
theorem dL_law_1166 : decode cL_law 1166 = .ok (.iaload, 1) := dr_46 (by decide +kernel)
set_option maxRecDepth 100000 in
theorem dL_law_1167 : decode cL_law 1167 = .ok (.invokevirtual 151, 3) := dr_182 (by decide +kernel)
set_option maxRecDepth 100000 in
theorem dL_law_1170 : decode cL_law 1170 = .ok (.pop, 1) := dr_87 (by decide +kernel)
set_option maxRecDepth 100000 in
theorem dL_law_1171 : decode cL_law 1171 = .ok (.aload_n 2, 1) := dr_44 (by decide +kernel)
set_option maxRecDepth 100000 in
theorem dL_law_1172 : decode cL_law 1172 = .ok (.aload_n 0, 1) := dr_42 (by decide +kernel)
set_option maxRecDepth 100000 in
theorem dL_law_1173 : decode cL_law 1173 = .ok (.iload 4, 2) := dr_21 (by decide +kernel)
set_option maxRecDepth 100000 in
theorem dL_law_1175 : decode cL_law 1175 = .ok (.iconst 1, 1) := dr_4 (by decide +kernel)
set_option maxRecDepth 100000 in
theorem dL_law_1176 : decode cL_law 1176 = .ok (.iadd, 1) := dr_96 (by decide +kernel)
set_option maxRecDepth 100000 in
theorem dL_law_1177 : decode cL_law 1177 = .ok (.iaload, 1) := dr_46 (by decide +kernel)
set_option maxRecDepth 100000 in
theorem dL_law_1178 : decode cL_law 1178 = .ok (.invokevirtual 154, 3) := dr_182 (by decide +kernel)
set_option maxRecDepth 100000 in
theorem dL_law_1181 : decode cL_law 1181 = .ok (.pop, 1) := dr_87 (by decide +kernel)
set_option maxRecDepth 100000 in
theorem dL_law_1182 : decode cL_law 1182 = .ok (.goto 368, 3) := dr_167 (by decide +kernel)
set_option maxRecDepth 100000 in
theorem dL_law_1185 : decode cL_law 1185 = .ok (.aload_n 1, 1) := dr_43 (by decide +kernel)
set_option maxRecDepth 100000 in
theorem dL_law_1186 : decode cL_law 1186 = .ok (.aload_n 0, 1) := dr_42 (by decide +kernel)
set_option maxRecDepth 100000 in
theorem dL_law_1187 : decode cL_law 1187 = .ok (.iload 4, 2) := dr_21 (by decide +kernel)
set_option maxRecDepth 100000 in
theorem dL_law_1189 : decode cL_law 1189 = .ok (.iconst 1, 1) := dr_4 (by decide +kernel)
set_option maxRecDepth 100000 in
theorem dL_law_1190 : decode cL_law 1190 = .ok (.iadd, 1) := dr_96 (by decide +kernel)
set_option maxRecDepth 100000 in
theorem dL_law_1191 : decode cL_law 1191 = .ok (.iaload, 1) := dr_46 (by decide +kernel)
set_option maxRecDepth 100000 in
theorem dL_law_1192 : decode cL_law 1192 = .ok (.aload_n 0, 1) := dr_42 (by decide +kernel)
set_option maxRecDepth 100000 in
theorem dL_law_1193 : decode cL_law 1193 = .ok (.iload 4, 2) := dr_21 (by decide +kernel)
set_option maxRecDepth 100000 in
theorem dL_law_1195 : decode cL_law 1195 = .ok (.iconst 2, 1) := dr_5 (by decide +kernel)
set_option maxRecDepth 100000 in
theorem dL_law_1196 : decode cL_law 1196 = .ok (.iadd, 1) := dr_96 (by decide +kernel)
set_option maxRecDepth 100000 in
theorem dL_law_1197 : decode cL_law 1197 = .ok (.iaload, 1) := dr_46 (by decide +kernel)
set_option maxRecDepth 100000 in
theorem dL_law_1198 : decode cL_law 1198 = .ok (.invokevirtual 155, 3) := dr_182 (by decide +kernel)
set_option maxRecDepth 100000 in
theorem dL_law_1201 : decode cL_law 1201 = .ok (.pop, 1) := dr_87 (by decide +kernel)
set_option maxRecDepth 100000 in
theorem dL_law_1202 : decode cL_law 1202 = .ok (.aload_n 2, 1) := dr_44 (by decide +kernel)
set_option maxRecDepth 100000 in
theorem dL_law_1203 : decode cL_law 1203 = .ok (.aload_n 0, 1) := dr_42 (by decide +kernel)
set_option maxRecDepth 100000 in
theorem dL_law_1204 : decode cL_law 1204 = .ok (.iload 4, 2) := dr_21 (by decide +kernel)
set_option maxRecDepth 100000 in
theorem dL_law_1206 : decode cL_law 1206 = .ok (.iconst 1, 1) := dr_4 (by decide +kernel)
set_option maxRecDepth 100000 in
theorem dL_law_1207 : decode cL_law 1207 = .ok (.iadd, 1) := dr_96 (by decide +kernel)
set_option maxRecDepth 100000 in
theorem dL_law_1208 : decode cL_law 1208 = .ok (.iaload, 1) := dr_46 (by decide +kernel)
set_option maxRecDepth 100000 in
theorem dL_law_1209 : decode cL_law 1209 = .ok (.aload_n 0, 1) := dr_42 (by decide +kernel)
set_option maxRecDepth 100000 in
theorem dL_law_1210 : decode cL_law 1210 = .ok (.iload 4, 2) := dr_21 (by decide +kernel)
set_option maxRecDepth 100000 in
theorem dL_law_1212 : decode cL_law 1212 = .ok (.iconst 2, 1) := dr_5 (by decide +kernel)
set_option maxRecDepth 100000 in
theorem dL_law_1213 : decode cL_law 1213 = .ok (.iadd, 1) := dr_96 (by decide +kernel)
set_option maxRecDepth 100000 in
theorem dL_law_1214 : decode cL_law 1214 = .ok (.iaload, 1) := dr_46 (by decide +kernel)
set_option maxRecDepth 100000 in
theorem dL_law_1215 : decode cL_law 1215 = .ok (.invokevirtual 158, 3) := dr_182 (by decide +kernel)
set_option maxRecDepth 100000 in
theorem dL_law_1218 : decode cL_law 1218 = .ok (.pop, 1) := dr_87 (by decide +kernel)
set_option maxRecDepth 100000 in
theorem dL_law_1219 : decode cL_law 1219 = .ok (.goto 331, 3) := dr_167 (by decide +kernel)
set_option maxRecDepth 100000 in
theorem dL_law_1222 : decode cL_law 1222 = .ok (.aload_n 1, 1) := dr_43 (by decide +kernel)
set_option maxRecDepth 100000 in
theorem dL_law_1223 : decode cL_law 1223 = .ok (.aload_n 0, 1) := dr_42 (by decide +kernel)
set_option maxRecDepth 100000 in
theorem dL_law_1224 : decode cL_law 1224 = .ok (.iload 4, 2) := dr_21 (by decide +kernel)
set_option maxRecDepth 100000 in
theorem dL_law_1226 : decode cL_law 1226 = .ok (.iconst 1, 1) := dr_4 (by decide +kernel)
set_option maxRecDepth 100000 in
theorem dL_law_1227 : decode cL_law 1227 = .ok (.iadd, 1) := dr_96 (by decide +kernel)
set_option maxRecDepth 100000 in
theorem dL_law_1228 : decode cL_law 1228 = .ok (.iaload, 1) := dr_46 (by decide +kernel)
set_option maxRecDepth 100000 in
theorem dL_law_1229 : decode cL_law 1229 = .ok (.invokevirtual 159, 3) := dr_182 (by decide +kernel)
set_option maxRecDepth 100000 in
theorem dL_law_1232 : decode cL_law 1232 = .ok (.pop, 1) := dr_87 (by decide +kernel)
set_option maxRecDepth 100000 in
theorem dL_law_1233 : decode cL_law 1233 = .ok (.aload_n 2, 1) := dr_44 (by decide +kernel)
set_option maxRecDepth 100000 in
theorem dL_law_1234 : decode cL_law 1234 = .ok (.aload_n 0, 1) := dr_42 (by decide +kernel)
set_option maxRecDepth 100000 in
theorem dL_law_1235 : decode cL_law 1235 = .ok (.iload 4, 2) := dr_21 (by decide +kernel)
set_option maxRecDepth 100000 in
theorem dL_law_1237 : decode cL_law 1237 = .ok (.iconst 1, 1) := dr_4 (by decide +kernel)
set_option maxRecDepth 100000 in
theorem dL_law_1238 : decode cL_law 1238 = .ok (.iadd, 1) := dr_96 (by decide +kernel)
set_option maxRecDepth 100000 in
theorem dL_law_1239 : decode cL_law 1239 = .ok (.iaload, 1) := dr_46 (by decide +kernel)
set_option maxRecDepth 100000 in
theorem dL_law_1240 : decode cL_law 1240 = .ok (.invokevirtual 162, 3) := dr_182 (by decide +kernel)
set_option maxRecDepth 100000 in
theorem dL_law_1243 : decode cL_law 1243 = .ok (.pop, 1) := dr_87 (by decide +kernel)
set_option maxRecDepth 100000 in
theorem dL_law_1244 : decode cL_law 1244 = .ok (.goto 306, 3) := dr_167 (by decide +kernel)
set_option maxRecDepth 100000 in
theorem dL_law_1247 : decode cL_law 1247 = .ok (.aload_n 1, 1) := dr_43 (by decide +kernel)
set_option maxRecDepth 100000 in
theorem dL_law_1248 : decode cL_law 1248 = .ok (.invokevirtual 163, 3) := dr_182 (by decide +kernel)
set_option maxRecDepth 100000 in
theorem dL_law_1251 : decode cL_law 1251 = .ok (.pop, 1) := dr_87 (by decide +kernel)
set_option maxRecDepth 100000 in
theorem dL_law_1252 : decode cL_law 1252 = .ok (.aload_n 2, 1) := dr_44 (by decide +kernel)
set_option maxRecDepth 100000 in
theorem dL_law_1253 : decode cL_law 1253 = .ok (.invokevirtual 166, 3) := dr_182 (by decide +kernel)
set_option maxRecDepth 100000 in
theorem dL_law_1256 : decode cL_law 1256 = .ok (.pop, 1) := dr_87 (by decide +kernel)
set_option maxRecDepth 100000 in
theorem dL_law_1257 : decode cL_law 1257 = .ok (.goto 293, 3) := dr_167 (by decide +kernel)
set_option maxRecDepth 100000 in
theorem dL_law_1260 : decode cL_law 1260 = .ok (.aload_n 1, 1) := dr_43 (by decide +kernel)
set_option maxRecDepth 100000 in
theorem dL_law_1261 : decode cL_law 1261 = .ok (.aload_n 0, 1) := dr_42 (by decide +kernel)
set_option maxRecDepth 100000 in
theorem dL_law_1262 : decode cL_law 1262 = .ok (.iload 4, 2) := dr_21 (by decide +kernel)
set_option maxRecDepth 100000 in
theorem dL_law_1264 : decode cL_law 1264 = .ok (.iconst 1, 1) := dr_4 (by decide +kernel)
set_option maxRecDepth 100000 in
theorem dL_law_1265 : decode cL_law 1265 = .ok (.iadd, 1) := dr_96 (by decide +kernel)
set_option maxRecDepth 100000 in
theorem dL_law_1266 : decode cL_law 1266 = .ok (.iaload, 1) := dr_46 (by decide +kernel)
set_option maxRecDepth 100000 in
theorem dL_law_1267 : decode cL_law 1267 = .ok (.invokevirtual 167, 3) := dr_182 (by decide +kernel)
set_option maxRecDepth 100000 in
theorem dL_law_1270 : decode cL_law 1270 = .ok (.pop, 1) := dr_87 (by decide +kernel)
set_option maxRecDepth 100000 in
theorem dL_law_1271 : decode cL_law 1271 = .ok (.aload_n 2, 1) := dr_44 (by decide +kernel)
set_option maxRecDepth 100000 in
theorem dL_law_1272 : decode cL_law 1272 = .ok (.aload_n 0, 1) := dr_42 (by decide +kernel)
set_option maxRecDepth 100000 in
theorem dL_law_1273 : decode cL_law 1273 = .ok (.iload 4, 2) := dr_21 (by decide +kernel)
set_option maxRecDepth 100000 in
theorem dL_law_1275 : decode cL_law 1275 = .ok (.iconst 1, 1) := dr_4 (by decide +kernel)
set_option maxRecDepth 100000 in
theorem dL_law_1276 : decode cL_law 1276 = .ok (.iadd, 1) := dr_96 (by decide +kernel)
set_option maxRecDepth 100000 in
theorem dL_law_1277 : decode cL_law 1277 = .ok (.iaload, 1) := dr_46 (by decide +kernel)
set_option maxRecDepth 100000 in
theorem dL_law_1278 : decode cL_law 1278 = .ok (.invokevirtual 170, 3) := dr_182 (by decide +kernel)
set_option maxRecDepth 100000 in
theorem dL_law_1281 : decode cL_law 1281 = .ok (.pop, 1) := dr_87 (by decide +kernel)
set_option maxRecDepth 100000 in
theorem dL_law_1282 : decode cL_law 1282 = .ok (.goto 268, 3) := dr_167 (by decide +kernel)
set_option maxRecDepth 100000 in
theorem dL_law_1285 : decode cL_law 1285 = .ok (.aload_n 1, 1) := dr_43 (by decide +kernel)
set_option maxRecDepth 100000 in
theorem dL_law_1286 : decode cL_law 1286 = .ok (.aload_n 0, 1) := dr_42 (by decide +kernel)
set_option maxRecDepth 100000 in
theorem dL_law_1287 : decode cL_law 1287 = .ok (.iload 4, 2) := dr_21 (by decide +kernel)
set_option maxRecDepth 100000 in
theorem dL_law_1289 : decode cL_law 1289 = .ok (.iconst 1, 1) := dr_4 (by decide +kernel)
set_option maxRecDepth 100000 in
theorem dL_law_1290 : decode cL_law 1290 = .ok (.iadd, 1) := dr_96 (by decide +kernel)
set_option maxRecDepth 100000 in
theorem dL_law_1291 : decode cL_law 1291 = .ok (.iaload, 1) := dr_46 (by decide +kernel)
set_option maxRecDepth 100000 in
theorem dL_law_1292 : decode cL_law 1292 = .ok (.aload_n 0, 1) := dr_42 (by decide +kernel)
set_option maxRecDepth 100000 in
theorem dL_law_1293 : decode cL_law 1293 = .ok (.iload 4, 2) := dr_21 (by decide +kernel)
set_option maxRecDepth 100000 in
theorem dL_law_1295 : decode cL_law 1295 = .ok (.iconst 2, 1) := dr_5 (by decide +kernel)
set_option maxRecDepth 100000 in
theorem dL_law_1296 : decode cL_law 1296 = .ok (.iadd, 1) := dr_96 (by decide +kernel)
set_option maxRecDepth 100000 in
theorem dL_law_1297 : decode cL_law 1297 = .ok (.iaload, 1) := dr_46 (by decide +kernel)
set_option maxRecDepth 100000 in
theorem dL_law_1298 : decode cL_law 1298 = .ok (.aload_n 0, 1) := dr_42 (by decide +kernel)
set_option maxRecDepth 100000 in
theorem dL_law_1299 : decode cL_law 1299 = .ok (.iload 4, 2) := dr_21 (by decide +kernel)
set_option maxRecDepth 100000 in
theorem dL_law_1301 : decode cL_law 1301 = .ok (.iconst 3, 1) := dr_6 (by decide +kernel)
set_option maxRecDepth 100000 in
theorem dL_law_1302 : decode cL_law 1302 = .ok (.iadd, 1) := dr_96 (by decide +kernel)
set_option maxRecDepth 100000 in
theorem dL_law_1303 : decode cL_law 1303 = .ok (.iaload, 1) := dr_46 (by decide +kernel)
set_option maxRecDepth 100000 in
theorem dL_law_1304 : decode cL_law 1304 = .ok (.invokevirtual 171, 3) := dr_182 (by decide +kernel)
set_option maxRecDepth 100000 in
theorem dL_law_1307 : decode cL_law 1307 = .ok (.pop, 1) := dr_87 (by decide +kernel)
set_option maxRecDepth 100000 in
theorem dL_law_1308 : decode cL_law 1308 = .ok (.aload_n 2, 1) := dr_44 (by decide +kernel)
set_option maxRecDepth 100000 in
theorem dL_law_1309 : decode cL_law 1309 = .ok (.aload_n 0, 1) := dr_42 (by decide +kernel)
set_option maxRecDepth 100000 in
theorem dL_law_1310 : decode cL_law 1310 = .ok (.iload 4, 2) := dr_21 (by decide +kernel)
set_option maxRecDepth 100000 in
theorem dL_law_1312 : decode cL_law 1312 = .ok (.iconst 1, 1) := dr_4 (by decide +kernel)
set_option maxRecDepth 100000 in
theorem dL_law_1313 : decode cL_law 1313 = .ok (.iadd, 1) := dr_96 (by decide +kernel)
set_option maxRecDepth 100000 in
theorem dL_law_1314 : decode cL_law 1314 = .ok (.iaload, 1) := dr_46 (by decide +kernel)
set_option maxRecDepth 100000 in
theorem dL_law_1315 : decode cL_law 1315 = .ok (.aload_n 0, 1) := dr_42 (by decide +kernel)
set_option maxRecDepth 100000 in
theorem dL_law_1316 : decode cL_law 1316 = .ok (.iload 4, 2) := dr_21 (by decide +kernel)
set_option maxRecDepth 100000 in
theorem dL_law_1318 : decode cL_law 1318 = .ok (.iconst 2, 1) := dr_5 (by decide +kernel)
set_option maxRecDepth 100000 in
theorem dL_law_1319 : decode cL_law 1319 = .ok (.iadd, 1) := dr_96 (by decide +kernel)
set_option maxRecDepth 100000 in
theorem dL_law_1320 : decode cL_law 1320 = .ok (.iaload, 1) := dr_46 (by decide +kernel)
set_option maxRecDepth 100000 in
theorem dL_law_1321 : decode cL_law 1321 = .ok (.aload_n 0, 1) := dr_42 (by decide +kernel)
set_option maxRecDepth 100000 in
theorem dL_law_1322 : decode cL_law 1322 = .ok (.iload 4, 2) := dr_21 (by decide +kernel)
set_option maxRecDepth 100000 in
theorem dL_law_1324 : decode cL_law 1324 = .ok (.iconst 3, 1) := dr_6 (by decide +kernel)
set_option maxRecDepth 100000 in
theorem dL_law_1325 : decode cL_law 1325 = .ok (.iadd, 1) := dr_96 (by decide +kernel)
set_option maxRecDepth 100000 in
theorem dL_law_1326 : decode cL_law 1326 = .ok (.iaload, 1) := dr_46 (by decide +kernel)
set_option maxRecDepth 100000 in
theorem dL_law_1327 : decode cL_law 1327 = .ok (.invokevirtual 174, 3) := dr_182 (by decide +kernel)
set_option maxRecDepth 100000 in
theorem dL_law_1330 : decode cL_law 1330 = .ok (.pop, 1) := dr_87 (by decide +kernel)
set_option maxRecDepth 100000 in
theorem dL_law_1331 : decode cL_law 1331 = .ok (.goto 219, 3) := dr_167 (by decide +kernel)
set_option maxRecDepth 100000 in
theorem dL_law_1334 : decode cL_law 1334 = .ok (.aload_n 1, 1) := dr_43 (by decide +kernel)
set_option maxRecDepth 100000 in
theorem dL_law_1335 : decode cL_law 1335 = .ok (.invokevirtual 175, 3) := dr_182 (by decide +kernel)
set_option maxRecDepth 100000 in
theorem dL_law_1338 : decode cL_law 1338 = .ok (.pop, 1) := dr_87 (by decide +kernel)
set_option maxRecDepth 100000 in
theorem dL_law_1339 : decode cL_law 1339 = .ok (.aload_n 2, 1) := dr_44 (by decide +kernel)
set_option maxRecDepth 100000 in
theorem dL_law_1340 : decode cL_law 1340 = .ok (.invokevirtual 178, 3) := dr_182 (by decide +kernel)
set_option maxRecDepth 100000 in
theorem dL_law_1343 : decode cL_law 1343 = .ok (.pop, 1) := dr_87 (by decide +kernel)
set_option maxRecDepth 100000 in
theorem dL_law_1344 : decode cL_law 1344 = .ok (.goto 206, 3) := dr_167 (by decide +kernel)
set_option maxRecDepth 100000 in
theorem dL_law_1347 : decode cL_law 1347 = .ok (.aload_n 1, 1) := dr_43 (by decide +kernel)
set_option maxRecDepth 100000 in
theorem dL_law_1348 : decode cL_law 1348 = .ok (.invokevirtual 179, 3) := dr_182 (by decide +kernel)
set_option maxRecDepth 100000 in
theorem dL_law_1351 : decode cL_law 1351 = .ok (.pop, 1) := dr_87 (by decide +kernel)
set_option maxRecDepth 100000 in
theorem dL_law_1352 : decode cL_law 1352 = .ok (.aload_n 2, 1) := dr_44 (by decide +kernel)
set_option maxRecDepth 100000 in
theorem dL_law_1353 : decode cL_law 1353 = .ok (.invokevirtual 182, 3) := dr_182 (by decide +kernel)
set_option maxRecDepth 100000 in
theorem dL_law_1356 : decode cL_law 1356 = .ok (.pop, 1) := dr_87 (by decide +kernel)
set_option maxRecDepth 100000 in
theorem dL_law_1357 : decode cL_law 1357 = .ok (.goto 193, 3) := dr_167 (by decide +kernel)
set_option maxRecDepth 100000 in
theorem dL_law_1360 : decode cL_law 1360 = .ok (.aload_n 1, 1) := dr_43 (by decide +kernel)
set_option maxRecDepth 100000 in
theorem dL_law_1361 : decode cL_law 1361 = .ok (.aload_n 0, 1) := dr_42 (by decide +kernel)
set_option maxRecDepth 100000 in
theorem dL_law_1362 : decode cL_law 1362 = .ok (.iload 4, 2) := dr_21 (by decide +kernel)
set_option maxRecDepth 100000 in
theorem dL_law_1364 : decode cL_law 1364 = .ok (.iconst 1, 1) := dr_4 (by decide +kernel)
set_option maxRecDepth 100000 in
theorem dL_law_1365 : decode cL_law 1365 = .ok (.iadd, 1) := dr_96 (by decide +kernel)
set_option maxRecDepth 100000 in
theorem dL_law_1366 : decode cL_law 1366 = .ok (.iaload, 1) := dr_46 (by decide +kernel)
set_option maxRecDepth 100000 in
theorem dL_law_1367 : decode cL_law 1367 = .ok (.aload_n 0, 1) := dr_42 (by decide +kernel)
set_option maxRecDepth 100000 in
theorem dL_law_1368 : decode cL_law 1368 = .ok (.iload 4, 2) := dr_21 (by decide +kernel)
set_option maxRecDepth 100000 in
theorem dL_law_1370 : decode cL_law 1370 = .ok (.iconst 2, 1) := dr_5 (by decide +kernel)
set_option maxRecDepth 100000 in
theorem dL_law_1371 : decode cL_law 1371 = .ok (.iadd, 1) := dr_96 (by decide +kernel)
set_option maxRecDepth 100000 in
theorem dL_law_1372 : decode cL_law 1372 = .ok (.iaload, 1) := dr_46 (by decide +kernel)
set_option maxRecDepth 100000 in
theorem dL_law_1373 : decode cL_law 1373 = .ok (.invokevirtual 183, 3) := dr_182 (by decide +kernel)
set_option maxRecDepth 100000 in
theorem dL_law_1376 : decode cL_law 1376 = .ok (.pop, 1) := dr_87 (by decide +kernel)
set_option maxRecDepth 100000 in
theorem dL_law_1377 : decode cL_law 1377 = .ok (.aload_n 2, 1) := dr_44 (by decide +kernel)
set_option maxRecDepth 100000 in
theorem dL_law_1378 : decode cL_law 1378 = .ok (.aload_n 0, 1) := dr_42 (by decide +kernel)
set_option maxRecDepth 100000 in
theorem dL_law_1379 : decode cL_law 1379 = .ok (.iload 4, 2) := dr_21 (by decide +kernel)
set_option maxRecDepth 100000 in
theorem dL_law_1381 : decode cL_law 1381 = .ok (.iconst 1, 1) := dr_4 (by decide +kernel)
set_option maxRecDepth 100000 in
theorem dL_law_1382 : decode cL_law 1382 = .ok (.iadd, 1) := dr_96 (by decide +kernel)
set_option maxRecDepth 100000 in
theorem dL_law_1383 : decode cL_law 1383 = .ok (.iaload, 1) := dr_46 (by decide +kernel)
set_option maxRecDepth 100000 in
theorem dL_law_1384 : decode cL_law 1384 = .ok (.aload_n 0, 1) := dr_42 (by decide +kernel)
set_option maxRecDepth 100000 in
theorem dL_law_1385 : decode cL_law 1385 = .ok (.iload 4, 2) := dr_21 (by decide +kernel)
set_option maxRecDepth 100000 in
theorem dL_law_1387 : decode cL_law 1387 = .ok (.iconst 2, 1) := dr_5 (by decide +kernel)
set_option maxRecDepth 100000 in
theorem dL_law_1388 : decode cL_law 1388 = .ok (.iadd, 1) := dr_96 (by decide +kernel)
set_option maxRecDepth 100000 in
theorem dL_law_1389 : decode cL_law 1389 = .ok (.iaload, 1) := dr_46 (by decide +kernel)
set_option maxRecDepth 100000 in
theorem dL_law_1390 : decode cL_law 1390 = .ok (.invokevirtual 186, 3) := dr_182 (by decide +kernel)
set_option maxRecDepth 100000 in
theorem dL_law_1393 : decode cL_law 1393 = .ok (.pop, 1) := dr_87 (by decide +kernel)
set_option maxRecDepth 100000 in
theorem dL_law_1394 : decode cL_law 1394 = .ok (.goto 156, 3) := dr_167 (by decide +kernel)
set_option maxRecDepth 100000 in
theorem dL_law_1397 : decode cL_law 1397 = .ok (.aload_n 1, 1) := dr_43 (by decide +kernel)
set_option maxRecDepth 100000 in
theorem dL_law_1398 : decode cL_law 1398 = .ok (.aload_n 0, 1) := dr_42 (by decide +kernel)
set_option maxRecDepth 100000 in
theorem dL_law_1399 : decode cL_law 1399 = .ok (.iload 4, 2) := dr_21 (by decide +kernel)
set_option maxRecDepth 100000 in
theorem dL_law_1401 : decode cL_law 1401 = .ok (.iconst 1, 1) := dr_4 (by decide +kernel)
set_option maxRecDepth 100000 in
theorem dL_law_1402 : decode cL_law 1402 = .ok (.iadd, 1) := dr_96 (by decide +kernel)
set_option maxRecDepth 100000 in
theorem dL_law_1403 : decode cL_law 1403 = .ok (.iaload, 1) := dr_46 (by decide +kernel)
set_option maxRecDepth 100000 in
theorem dL_law_1404 : decode cL_law 1404 = .ok (.invokevirtual 187, 3) := dr_182 (by decide +kernel)
set_option maxRecDepth 100000 in
theorem dL_law_1407 : decode cL_law 1407 = .ok (.pop, 1) := dr_87 (by decide +kernel)
set_option maxRecDepth 100000 in
theorem dL_law_1408 : decode cL_law 1408 = .ok (.aload_n 2, 1) := dr_44 (by decide +kernel)
set_option maxRecDepth 100000 in
theorem dL_law_1409 : decode cL_law 1409 = .ok (.aload_n 0, 1) := dr_42 (by decide +kernel)
set_option maxRecDepth 100000 in
theorem dL_law_1410 : decode cL_law 1410 = .ok (.iload 4, 2) := dr_21 (by decide +kernel)
set_option maxRecDepth 100000 in
theorem dL_law_1412 : decode cL_law 1412 = .ok (.iconst 1, 1) := dr_4 (by decide +kernel)
set_option maxRecDepth 100000 in
theorem dL_law_1413 : decode cL_law 1413 = .ok (.iadd, 1) := dr_96 (by decide +kernel)
set_option maxRecDepth 100000 in
theorem dL_law_1414 : decode cL_law 1414 = .ok (.iaload, 1) := dr_46 (by decide +kernel)
set_option maxRecDepth 100000 in
theorem dL_law_1415 : decode cL_law 1415 = .ok (.invokevirtual 190, 3) := dr_182 (by decide +kernel)
set_option maxRecDepth 100000 in
theorem dL_law_1418 : decode cL_law 1418 = .ok (.pop, 1) := dr_87 (by decide +kernel)
set_option maxRecDepth 100000 in
theorem dL_law_1419 : decode cL_law 1419 = .ok (.goto 131, 3) := dr_167 (by decide +kernel)
set_option maxRecDepth 100000 in
theorem dL_law_1422 : decode cL_law 1422 = .ok (.aload_n 1, 1) := dr_43 (by decide +kernel)
set_option maxRecDepth 100000 in
theorem dL_law_1423 : decode cL_law 1423 = .ok (.aload_n 0, 1) := dr_42 (by decide +kernel)
set_option maxRecDepth 100000 in
theorem dL_law_1424 : decode cL_law 1424 = .ok (.iload 4, 2) := dr_21 (by decide +kernel)
set_option maxRecDepth 100000 in
theorem dL_law_1426 : decode cL_law 1426 = .ok (.iconst 1, 1) := dr_4 (by decide +kernel)
set_option maxRecDepth 100000 in
theorem dL_law_1427 : decode cL_law 1427 = .ok (.iadd, 1) := dr_96 (by decide +kernel)
set_option maxRecDepth 100000 in
theorem dL_law_1428 : decode cL_law 1428 = .ok (.iaload, 1) := dr_46 (by decide +kernel)
set_option maxRecDepth 100000 in
theorem dL_law_1429 : decode cL_law 1429 = .ok (.invokevirtual 191, 3) := dr_182 (by decide +kernel)
set_option maxRecDepth 100000 in
theorem dL_law_1432 : decode cL_law 1432 = .ok (.pop, 1) := dr_87 (by decide +kernel)
set_option maxRecDepth 100000 in
theorem dL_law_1433 : decode cL_law 1433 = .ok (.aload_n 2, 1) := dr_44 (by decide +kernel)
set_option maxRecDepth 100000 in
theorem dL_law_1434 : decode cL_law 1434 = .ok (.aload_n 0, 1) := dr_42 (by decide +kernel)
set_option maxRecDepth 100000 in
theorem dL_law_1435 : decode cL_law 1435 = .ok (.iload 4, 2) := dr_21 (by decide +kernel)
set_option maxRecDepth 100000 in
theorem dL_law_1437 : decode cL_law 1437 = .ok (.iconst 1, 1) := dr_4 (by decide +kernel)
set_option maxRecDepth 100000 in
theorem dL_law_1438 : decode cL_law 1438 = .ok (.iadd, 1) := dr_96 (by decide +kernel)
set_option maxRecDepth 100000 in
theorem dL_law_1439 : decode cL_law 1439 = .ok (.iaload, 1) := dr_46 (by decide +kernel)
set_option maxRecDepth 100000 in
theorem dL_law_1440 : decode cL_law 1440 = .ok (.invokevirtual 194, 3) := dr_182 (by decide +kernel)
set_option maxRecDepth 100000 in
theorem dL_law_1443 : decode cL_law 1443 = .ok (.pop, 1) := dr_87 (by decide +kernel)
set_option maxRecDepth 100000 in
theorem dL_law_1444 : decode cL_law 1444 = .ok (.goto 106, 3) := dr_167 (by decide +kernel)
set_option maxRecDepth 100000 in
theorem dL_law_1447 : decode cL_law 1447 = .ok (.aload_n 1, 1) := dr_43 (by decide +kernel)
set_option maxRecDepth 100000 in
theorem dL_law_1448 : decode cL_law 1448 = .ok (.aload_n 0, 1) := dr_42 (by decide +kernel)
set_option maxRecDepth 100000 in
theorem dL_law_1449 : decode cL_law 1449 = .ok (.iload 4, 2) := dr_21 (by decide +kernel)
set_option maxRecDepth 100000 in
theorem dL_law_1451 : decode cL_law 1451 = .ok (.iconst 1, 1) := dr_4 (by decide +kernel)
set_option maxRecDepth 100000 in
theorem dL_law_1452 : decode cL_law 1452 = .ok (.iadd, 1) := dr_96 (by decide +kernel)
set_option maxRecDepth 100000 in
theorem dL_law_1453 : decode cL_law 1453 = .ok (.iaload, 1) := dr_46 (by decide +kernel)
set_option maxRecDepth 100000 in
theorem dL_law_1454 : decode cL_law 1454 = .ok (.invokevirtual 195, 3) := dr_182 (by decide +kernel)
set_option maxRecDepth 100000 in
theorem dL_law_1457 : decode cL_law 1457 = .ok (.pop, 1) := dr_87 (by decide +kernel)
set_option maxRecDepth 100000 in
theorem dL_law_1458 : decode cL_law 1458 = .ok (.aload_n 2, 1) := dr_44 (by decide +kernel)
set_option maxRecDepth 100000 in
theorem dL_law_1459 : decode cL_law 1459 = .ok (.aload_n 0, 1) := dr_42 (by decide +kernel)
set_option maxRecDepth 100000 in
theorem dL_law_1460 : decode cL_law 1460 = .ok (.iload 4, 2) := dr_21 (by decide +kernel)
set_option maxRecDepth 100000 in
theorem dL_law_1462 : decode cL_law 1462 = .ok (.iconst 1, 1) := dr_4 (by decide +kernel)
set_option maxRecDepth 100000 in
theorem dL_law_1463 : decode cL_law 1463 = .ok (.iadd, 1) := dr_96 (by decide +kernel)
set_option maxRecDepth 100000 in
theorem dL_law_1464 : decode cL_law 1464 = .ok (.iaload, 1) := dr_46 (by decide +kernel)
set_option maxRecDepth 100000 in
theorem dL_law_1465 : decode cL_law 1465 = .ok (.invokevirtual 198, 3) := dr_182 (by decide +kernel)
set_option maxRecDepth 100000 in
theorem dL_law_1468 : decode cL_law 1468 = .ok (.pop, 1) := dr_87 (by decide +kernel)
set_option maxRecDepth 100000 in
theorem dL_law_1469 : decode cL_law 1469 = .ok (.goto 81, 3) := dr_167 (by decide +kernel)
set_option maxRecDepth 100000 in
theorem dL_law_1472 : decode cL_law 1472 = .ok (.aload_n 1, 1) := dr_43 (by decide +kernel)
set_option maxRecDepth 100000 in
theorem dL_law_1473 : decode cL_law 1473 = .ok (.aload_n 0, 1) := dr_42 (by decide +kernel)
set_option maxRecDepth 100000 in
theorem dL_law_1474 : decode cL_law 1474 = .ok (.iload 4, 2) := dr_21 (by decide +kernel)
set_option maxRecDepth 100000 in
theorem dL_law_1476 : decode cL_law 1476 = .ok (.iconst 1, 1) := dr_4 (by decide +kernel)
set_option maxRecDepth 100000 in
theorem dL_law_1477 : decode cL_law 1477 = .ok (.iadd, 1) := dr_96 (by decide +kernel)
set_option maxRecDepth 100000 in
theorem dL_law_1478 : decode cL_law 1478 = .ok (.iaload, 1) := dr_46 (by decide +kernel)
set_option maxRecDepth 100000 in
theorem dL_law_1479 : decode cL_law 1479 = .ok (.invokevirtual 199, 3) := dr_182 (by decide +kernel)
set_option maxRecDepth 100000 in
theorem dL_law_1482 : decode cL_law 1482 = .ok (.pop, 1) := dr_87 (by decide +kernel)
set_option maxRecDepth 100000 in
theorem dL_law_1483 : decode cL_law 1483 = .ok (.aload_n 2, 1) := dr_44 (by decide +kernel)
set_option maxRecDepth 100000 in
theorem dL_law_1484 : decode cL_law 1484 = .ok (.aload_n 0, 1) := dr_42 (by decide +kernel)
set_option maxRecDepth 100000 in
theorem dL_law_1485 : decode cL_law 1485 = .ok (.iload 4, 2) := dr_21 (by decide +kernel)
set_option maxRecDepth 100000 in
theorem dL_law_1487 : decode cL_law 1487 = .ok (.iconst 1, 1) := dr_4 (by decide +kernel)
set_option maxRecDepth 100000 in
theorem dL_law_1488 : decode cL_law 1488 = .ok (.iadd, 1) := dr_96 (by decide +kernel)
set_option maxRecDepth 100000 in
theorem dL_law_1489 : decode cL_law 1489 = .ok (.iaload, 1) := dr_46 (by decide +kernel)
set_option maxRecDepth 100000 in
theorem dL_law_1490 : decode cL_law 1490 = .ok (.invokevirtual 202, 3) := dr_182 (by decide +kernel)
set_option maxRecDepth 100000 in
theorem dL_law_1493 : decode cL_law 1493 = .ok (.pop, 1) := dr_87 (by decide +kernel)
set_option maxRecDepth 100000 in
theorem dL_law_1494 : decode cL_law 1494 = .ok (.goto 56, 3) := dr_167 (by decide +kernel)
set_option maxRecDepth 100000 in
theorem dL_law_1497 : decode cL_law 1497 = .ok (.aload_n 1, 1) := dr_43 (by decide +kernel)
set_option maxRecDepth 100000 in
theorem dL_law_1498 : decode cL_law 1498 = .ok (.aload_n 0, 1) := dr_42 (by decide +kernel)
set_option maxRecDepth 100000 in
theorem dL_law_1499 : decode cL_law 1499 = .ok (.iload 4, 2) := dr_21 (by decide +kernel)
set_option maxRecDepth 100000 in
theorem dL_law_1501 : decode cL_law 1501 = .ok (.iconst 1, 1) := dr_4 (by decide +kernel)
set_option maxRecDepth 100000 in
theorem dL_law_1502 : decode cL_law 1502 = .ok (.iadd, 1) := dr_96 (by decide +kernel)
set_option maxRecDepth 100000 in
theorem dL_law_1503 : decode cL_law 1503 = .ok (.iaload, 1) := dr_46 (by decide +kernel)
set_option maxRecDepth 100000 in
theorem dL_law_1504 : decode cL_law 1504 = .ok (.invokevirtual 203, 3) := dr_182 (by decide +kernel)
set_option maxRecDepth 100000 in
theorem dL_law_1507 : decode cL_law 1507 = .ok (.pop, 1) := dr_87 (by decide +kernel)
set_option maxRecDepth 100000 in
theorem dL_law_1508 : decode cL_law 1508 = .ok (.aload_n 2, 1) := dr_44 (by decide +kernel)
set_option maxRecDepth 100000 in
theorem dL_law_1509 : decode cL_law 1509 = .ok (.aload_n 0, 1) := dr_42 (by decide +kernel)
set_option maxRecDepth 100000 in
theorem dL_law_1510 : decode cL_law 1510 = .ok (.iload 4, 2) := dr_21 (by decide +kernel)
set_option maxRecDepth 100000 in
theorem dL_law_1512 : decode cL_law 1512 = .ok (.iconst 1, 1) := dr_4 (by decide +kernel)
set_option maxRecDepth 100000 in
theorem dL_law_1513 : decode cL_law 1513 = .ok (.iadd, 1) := dr_96 (by decide +kernel)
set_option maxRecDepth 100000 in
theorem dL_law_1514 : decode cL_law 1514 = .ok (.iaload, 1) := dr_46 (by decide +kernel)
set_option maxRecDepth 100000 in
theorem dL_law_1515 : decode cL_law 1515 = .ok (.invokevirtual 206, 3) := dr_182 (by decide +kernel)
set_option maxRecDepth 100000 in
theorem dL_law_1518 : decode cL_law 1518 = .ok (.pop, 1) := dr_87 (by decide +kernel)
set_option maxRecDepth 100000 in
theorem dL_law_1519 : decode cL_law 1519 = .ok (.goto 31, 3) := dr_167 (by decide +kernel)
set_option maxRecDepth 100000 in
theorem dL_law_1522 : decode cL_law 1522 = .ok (.aload_n 1, 1) := dr_43 (by decide +kernel)
set_option maxRecDepth 100000 in
theorem dL_law_1523 : decode cL_law 1523 = .ok (.aload_n 0, 1) := dr_42 (by decide +kernel)
set_option maxRecDepth 100000 in
theorem dL_law_1524 : decode cL_law 1524 = .ok (.iload 4, 2) := dr_21 (by decide +kernel)
set_option maxRecDepth 100000 in
theorem dL_law_1526 : decode cL_law 1526 = .ok (.iconst 1, 1) := dr_4 (by decide +kernel)
set_option maxRecDepth 100000 in
theorem dL_law_1527 : decode cL_law 1527 = .ok (.iadd, 1) := dr_96 (by decide +kernel)
set_option maxRecDepth 100000 in
theorem dL_law_1528 : decode cL_law 1528 = .ok (.iaload, 1) := dr_46 (by decide +kernel)
set_option maxRecDepth 100000 in
theorem dL_law_1529 : decode cL_law 1529 = .ok (.aload_n 3, 1) := dr_45 (by decide +kernel)
set_option maxRecDepth 100000 in
theorem dL_law_1530 : decode cL_law 1530 = .ok (.invokestatic 207, 3) := dr_184 (by decide +kernel)
set_option maxRecDepth 100000 in
theorem dL_law_1533 : decode cL_law 1533 = .ok (.istore 5, 2) := dr_54 (by decide +kernel)
set_option maxRecDepth 100000 in
theorem dL_law_1535 : decode cL_law 1535 = .ok (.aload_n 2, 1) := dr_44 (by decide +kernel)
set_option maxRecDepth 100000 in
theorem dL_law_1536 : decode cL_law 1536 = .ok (.aload_n 0, 1) := dr_42 (by decide +kernel)
set_option maxRecDepth 100000 in
theorem dL_law_1537 : decode cL_law 1537 = .ok (.iload 4, 2) := dr_21 (by decide +kernel)
set_option maxRecDepth 100000 in
theorem dL_law_1539 : decode cL_law 1539 = .ok (.iconst 1, 1) := dr_4 (by decide +kernel)
set_option maxRecDepth 100000 in
theorem dL_law_1540 : decode cL_law 1540 = .ok (.iadd, 1) := dr_96 (by decide +kernel)
set_option maxRecDepth 100000 in
theorem dL_law_1541 : decode cL_law 1541 = .ok (.iaload, 1) := dr_46 (by decide +kernel)
set_option maxRecDepth 100000 in
theorem dL_law_1542 : decode cL_law 1542 = .ok (.invokevirtual 210, 3) := dr_182 (by decide +kernel)
set_option maxRecDepth 100000 in
theorem dL_law_1545 : decode cL_law 1545 = .ok (.lstore 6, 2) := dr_55 (by decide +kernel)
set_option maxRecDepth 100000 in
theorem dL_law_1547 : decode cL_law 1547 = .ok (.goto 3, 3) := dr_167 (by decide +kernel)
set_option maxRecDepth 100000 in
theorem dL_law_1550 : decode cL_law 1550 = .ok (.iinc 4 6, 3) := dr_132 (by decide +kernel)
set_option maxRecDepth 100000 in
theorem dL_law_1553 : decode cL_law 1553 = .ok (.goto (-1530), 3) := dr_167 (by decide +kernel)
set_option maxRecDepth 100000 in
theorem dL_law_1556 : decode cL_law 1556 = .ok (.iconst 1, 1) := dr_4 (by decide +kernel)
set_option maxRecDepth 100000 in
theorem dL_law_1557 : decode cL_law 1557 = .ok (.ireturn, 1) := dr_172 (by decide +kernel)
end
section
theorem qde_65 : (parseMethodDescriptor "(LWinnerTeaches$States;)V").map (fun d => d.parameters.length) = some 1 := by decide +kernel
/-! MAKING: the cells come one behind the other, at addresses from bs on, in the order of the layout -/
def adb (bs : Nat) : Nat → Nat := fun i => bs + i
/-- while cells are made: n of them there are, all that came since bs; kc cells of ks slots may still come; lq: the layout at the end -/
abbrev EK (X : Launch → State → (Nat → Prop) → Prop) (bs n kc ks : Nat) (lq : List Ent) : EB := (fun _ l _ _ s _ _ _ _ _ cs _ _ _ A _ => (s.heap.size + cs = bs + n ∧ ∀ q, A q → bs ≤ q) ∧ X l s A, kc, ks, lq)
def X0 : Launch → State → (Nat → Prop) → Prop := fun _ _ _ => True
abbrev ps (lay : List Ent) (e : Ent) : List Ent := lay ++ [e]
def zm (m : Wm) (a : Nat) : Wm := (fun b j => if b = a then 0 else m.1 b j, fun b j => if b = a then 0 else m.2.1 b j, fun b j => if b = a then none else m.2.2 b j)
theorem len_push {lay : List Ent} {n : Nat} {e : Ent} (h : lay.length = n) : (ps lay e).length = n + 1 := by simp [h]
theorem at_new {lay : List Ent} {n : Nat} {e : Ent} (h : lay.length = n) : (ps lay e)[n]? = some e := by subst h; simp
theorem at_old {lay : List Ent} {i : Nat} {x e : Ent} (h : lay[i]? = some x) : (ps lay e)[i]? = some x := by
  rw [List.getElem?_append_left (List.getElem?_eq_some_iff.mp h).1]; exact h
theorem cells_len {lay : List Ent} {ad : Nat → Nat} {cA : Nat → ClassId} {m : Wm} : (cellsOf lay ad cA m).length = lay.length := by simp [cellsOf]
theorem cells_push {lay : List Ent} {ad : Nat → Nat} {cA : Nat → ClassId} {m : Wm} {n : Nat} {e : Ent} (hn : lay.length = n) : cellsOf lay ad cA m ++ [(ad n, cellE ad cA (zm m n) n e)] = cellsOf (ps lay e) ad cA (zm m n) := by
  subst hn
  apply List.ext_getElem?
  intro i
  rcases Nat.lt_trichotomy i lay.length with h | h | h
  · rw [List.getElem?_append_left (by rw [cells_len]; exact h)]
    simp only [cellsOf, List.getElem?_mapIdx, List.getElem?_append_left h]
    cases lay[i]? with
    | none => rfl
    | some e' =>
      simp only [Option.map_some]
      rw [cellE_frame (m := m) (m' := zm m lay.length) (by funext j; simp [zm, Nat.ne_of_lt h]) (by funext j; simp [zm, Nat.ne_of_lt h]) (by funext j; simp [zm, Nat.ne_of_lt h])]
  · subst h
    rw [List.getElem?_append_right (by rw [cells_len]; exact Nat.le_refl _), cells_len, cells_at (at_new rfl)]
    simp
  · rw [List.getElem?_eq_none (by simp [cells_len]; omega), List.getElem?_eq_none (by simp [cells_len]; omega)]
theorem fresh_at {lay : List Ent} {bs n q : Nat} {cA : Nat → ClassId} {m : Wm} {A : Nat → Prop} {G : va_G} {H1 : Heap} {x : va_E} (hn : lay.length = n) (hA : ∀ q, A q → bs ≤ q) (hP1 : va_P G vwCl (cellsOf lay (adb bs) cA m ++ [(q, x)]) H1) (hD1 : va_D A (cellsOf lay (adb bs) cA m ++ [(q, x)])) (hs : H1.size ≤ bs + n + 1) : q = bs + n := by
  have hl : (cellsOf lay (adb bs) cA m).length = n := by rw [cells_len, hn]
  have hi : (cellsOf lay (adb bs) cA m ++ [(q, x)])[n]? = some (q, x) := by
    rw [List.getElem?_append_right (by omega), hl]; simp
  have h1 : q < H1.size := (hP1 n (q, x) hi).lt
  have h2 : bs ≤ q := hA q (hD1.2 n (q, x) hi)
  rcases Nat.lt_or_ge (q - bs) n with h3 | h3
  · exfalso
    have hlt : q - bs < lay.length := by omega
    have hj : (cellsOf lay (adb bs) cA m ++ [(q, x)])[q - bs]? = some (adb bs (q - bs), cellE (adb bs) cA m (q - bs) lay[q - bs]) := by
      rw [List.getElem?_append_left (by omega)]
      exact cells_at (List.getElem?_eq_getElem hlt)
    have := hD1.1 (q - bs) n _ _ hj hi (by show bs + (q - bs) = q; omega)
    omega
  · omega
theorem cA_eq {G : va_G} {cA : Nat → ClassId} {cA' : ClassId} {ty : FieldType} {t : Nat} {s : State} (hK : va_K G vwCl (tysOf cA ++ [(cA', ty)]) s) (ht : (tysOf cA)[t]? = some (cA t, ty)) : cA' = cA t := by
  have h1 := (hK.2 7 (cA', ty) rfl).2
  have h2 := (hK.2 t (cA t, ty) (by rw [List.getElem?_append_left (List.getElem?_eq_some_iff.mp ht).1]; exact ht)).2
  cases ty with
  | object C =>
    obtain ⟨_, _, _, _, _, e1⟩ := h1
    obtain ⟨_, _, _, _, _, e2⟩ := h2
    exact Option.some.inj (e1.symm.trans e2)
  | _ =>
    have h1 : s.vm.findClass _ = some cA' := h1
    have h2 : s.vm.findClass _ = some (cA t) := h2
    exact Option.some.inj (h1.symm.trans h2)
theorem set_arR {lay : List Ent} {ad : Nat → Nat} {cA : Nat → ClassId} {m : Wm} {a ty n k b : Nat} (he : lay[a]? = some (.inr (ty, n))) (ht : 4 < ty) :
    (cellsOf lay ad cA m).set a (ad a, .inl (cA ty, n, .inr (.inr (.inr (.inr (va_up (fun j => (m.2.2 a j).map ad) k (some (ad b)))))))) = cellsOf lay ad cA (uR m a k (some b)) := by
  refine cells_set he ?_ (fun b hb => ⟨rfl, rfl, ?_⟩)
  · show Sum.inl (cA ty, arrV' ad (uR m a k (some b)) a ty n) = _
    unfold arrV'
    rw [if_neg (by omega), if_neg (by omega)]
    congr 7
    funext j
    by_cases hj : j = k
    · simp [uR, va_up, hj]
    · simp [uR, va_up, hj]
  · funext j; simp [uR, hb]
def dfl (c : Nat) : Value := match c with
  | 0 => .int 0
  | 1 => .long 0
  | _ => .null
theorem fld_born {ad : Nat → Nat} {m : Wm} {n j : Nat} {cs : List Nat} (h : ∀ c ∈ cs, c ≤ 2) (hj : j < cs.length) : vp_V (fldVs ad (zm m n) n cs) j = dfl (cs.getD j 0) := by
  have h1 : cs[j]? = some cs[j] := List.getElem?_eq_getElem hj
  have h2 := fldVs_at (ad := ad) (m := zm m n) (a := n) h1
  have h3 := h cs[j] (List.getElem_mem hj)
  unfold vp_V
  rw [List.getD_eq_getElem?_getD, h2, List.getD_eq_getElem?_getD, h1]
  simp only [Option.getD_some]
  revert h3
  generalize cs[j] = c
  intro h3
  match c, h3 with
  | 0, _ => simp [fldV, dfl, zm]
  | 1, _ => simp [fldV, dfl, zm]
  | 2, _ => simp [fldV, dfl, zm, va_rf]
def rmk (d kc ks : Nat) : Room := { frames := d, cells := kc, slots := ks, locals := 41 * d }
def QK (bs : Nat) (lay' : List Ent) (G : va_G) (cA : Nat → ClassId) (A : Nat → Prop) (m' : Wm) : Array Value → State → Outcome → State → Prop := fun _ st oc t => (oc = .returned none ∧ va_P G vwCl (cellsOf lay' (adb bs) cA m') t.heap ∧ va_D A (cellsOf lay' (adb bs) cA m')) ∧ va_F A st t
/-- a constructor's contract: from the layout lay to lay', from the world m to m' -/
def CtK (bs : Nat) (lay lay' : List Ent) (μ : MI) (d kc ks : Nat) (args : List Value) (m m' : Wm) : Prop :=
  ∀ (l : Launch) (G : va_G) (cA : Nat → ClassId), Met l μ.1 (.code μ.1 μ.2.1 μ.2.2.1 μ.2.2.2.2 :: TW) (rmk d kc ks) (va_Pc args (PCt lay (adb bs) G cA m (bs + lay.length))) (QK bs lay' G cA (va_A (cellsOf lay (adb bs) cA m) (bs + lay.length)) m') kc ks (va_A (cellsOf lay (adb bs) cA m) (bs + lay.length))
theorem CtK.of {bs n : Nat} {lay lay' : List Ent} {μ : MI} {d kc ks : Nat} {args : List Value} {m m' : Wm} (hy : plainName μ.1.cls = true) (ho : μ.2.2.2.1 = μ.1.cls) (hret : μ.2.2.2.2 = none) (hn : lay.length = n) (hng : (lg_sl args).length ≤ μ.2.2.1) (h : AWl lay (adb bs) (EK X0 bs n kc ks lay') μ d (fun v w => v = none ∧ w = m') 0 (lv_args 0 args) [] m) : CtK bs lay lay' μ d kc ks args m m' := by
  subst hn
  intro l G cA
  refine Met.ofW (cc := μ.2.1) (maxL := μ.2.2.1) (ret := μ.2.2.2.2) hy rfl ?_
  intro p e s mt args' below meth c s₁ B hml hv
  obtain ⟨rfl, hsz, hP, hK, hD0, hN⟩ := hv
  have hts := atoms_spec (ws := .code μ.1 μ.2.1 μ.2.2.1 μ.2.2.2.2 :: TW) B.pre
  have hD : va_D (va_A (cellsOf lay (adb bs) cA m) (bs + lay.length)) (cellsOf lay (adb bs) cA m) := hD0.self
  have hAb : ∀ q, va_A (cellsOf lay (adb bs) cA m) (bs + lay.length) q → bs ≤ q := by
    intro q hq
    rcases hq with ⟨k, x, hq⟩ | hq
    · have := (cells_adr hq).1
      show bs ≤ q
      rw [show q = adb bs k from this]
      exact Nat.le_add_right _ _
    · exact Nat.le_trans (Nat.le_add_right _ _) hq
  rw [lg_entry_eq]
  refine h p l e _ s mt _ below meth c s.heap [] 0 0 G cA (va_A (cellsOf lay (adb bs) cA m) (bs + lay.length)) _ _ ⟨⟨B.exec, B.bytes, hml, by rw [ho]; exact findClass_of_methodNamed B.named, fun w hw => hts w (List.mem_cons_of_mem _ hw)⟩, hK, fun q hq => Or.inr (by rw [← hsz]; exact hq), ⟨⟨⟨by rw [hsz]; rfl, hAb⟩, trivial⟩, fun h => ((name_of_methodNamed B.named B.method).1).trans h, hN⟩, ⟨Nat.le_refl _, Nat.le_refl _, by show 0 + kc ≤ kc; omega, by show 0 + ks ≤ ks; omega⟩, ?_⟩ hP hD va_S.rf (lv_entry args hng)
  intro v w H' locs' pc' ls' cs' sl' hr hc1 hc2 hq hP' hD' hS'
  obtain ⟨rfl, rfl⟩ := hq
  rcases hr with ⟨-, -, hd⟩ | ⟨x, ty, h1, -⟩ | ⟨x, h1, -⟩
  · refine W.widen (k := kc) (n := ks) hc1 hc2 ?_
    exact W.vret B.exec B.bytes (B.returns.trans hret) (fun t ht hW => ⟨⟨rfl, by rw [ht]; exact hP', hD'⟩, hS'.F ht⟩) hS'.2.2 hd B.notSynchronized
  · cases h1
  · cases h1
def CallI (own : String) (idx : Nat) (μ' : MI) (n : Nat) : Prop := Cond.methodLink own idx μ'.1 ∈ TW ∧ Cond.instanceMethod μ'.1 ∈ TW ∧ Cond.initialized μ'.1.cls ∈ TW ∧ Cond.code μ'.1 μ'.2.1 μ'.2.2.1 none ∈ TW ∧ (μ'.1.cls ≠ "java/lang/invoke/MethodHandle" ∧ μ'.1.cls ≠ "java/lang/invoke/VarHandle" ∧ (parseMethodDescriptor μ'.1.desc).map (fun d => d.parameters.length) = some n) ∧ μ'.2.2.1 ≤ 22 ∧ μ'.1.name = "<init>" ∧ μ'.2.2.2.2 = none
def CallIN (own : String) (idx : Nat) (host : String) (μ' : MI) (n : Nat) : Prop := (own, idx, μ'.1, host) ∈ NW ∧ Cond.instanceMethod μ'.1 ∈ TW ∧ Cond.initialized μ'.1.cls ∈ TW ∧ Cond.code μ'.1 μ'.2.1 μ'.2.2.1 none ∈ TW ∧ (μ'.1.cls ≠ "java/lang/invoke/MethodHandle" ∧ μ'.1.cls ≠ "java/lang/invoke/VarHandle" ∧ (parseMethodDescriptor μ'.1.desc).map (fun d => d.parameters.length) = some n) ∧ μ'.2.2.1 ≤ 22 ∧ μ'.1.name = "<init>" ∧ μ'.2.2.2.2 = none
theorem aw_runK {bs : Nat} {lay lay' : List Ent} {p : Program} {l : Launch} {e : Env} {R : Room} {s : State} {mt : MethodId} {args : Array Value} {below : List Frame} {meth : Method} {c : Code} {H : Heap} {locs : List Loc} {cs sl kc ks : Nat} {G : va_G} {cA : Nat → ClassId} {A : Nat → Prop} {m m' : Wm} {Qz : State → Prop} {pc : Nat} {ls : Array Slot} {st0 rest : List Value} {a : Array Value}
    (hr : va_Run p l e R s mt args below meth c H locs cs sl kc ks (F0 mt pc ls st0) rest (QK bs lay' G cA (va_A (cellsOf lay (adb bs) cA m) (bs + lay.length)) m' a) (va_A (cellsOf lay (adb bs) cA m) (bs + lay.length))) (hz : H.size = bs + lay.length) (hD : va_D A (cellsOf lay (adb bs) cA m)) (hS : va_S A s.heap H locs) (hA : ∀ q, s.heap.size ≤ q → A q)
    (kk : ∀ (H1 : Heap) (locs1 : List Loc), va_P G vwCl (cellsOf lay' (adb bs) cA m') H1 → va_D A (cellsOf lay' (adb bs) cA m') → va_S A s.heap H1 locs1 → W p l e R s mt args below meth c H1 locs1 (cs + kc) (sl + ks) Qz (F0 mt (pc + 3) ls rest)) : W p l e R s mt args below meth c H locs cs sl Qz (F0 mt pc ls st0) := by
  intro T hT X
  obtain ⟨v, st₀, t, T', L, h0, X', hL, e1, e2, ⟨⟨hv, hp, hd⟩, hz', hk⟩, st⟩ := hr T hT X
  cases hv
  rw [h0] at hz' hk
  have hAA : ∀ q, va_A (cellsOf lay (adb bs) cA m) (bs + lay.length) q → A q := by
    intro q hq
    rcases hq with ⟨k, x, hq⟩ | hq
    · exact hD.2 k (q, x) hq
    · exact hA q (Nat.le_trans hS.1 (by rw [hz]; exact hq))
  obtain ⟨t2, a1, b1⟩ := kk T'.heap (locs ++ L) (by rw [e1]; exact hp) (hd.weaken (fun k q hq h => hAA _ h))
    ⟨Nat.le_trans hS.1 (by rw [e1]; exact hz'), fun q h1 h2 => by rw [e1, hk q (Nat.lt_of_lt_of_le h1 hS.1) (fun z => h2 (hAA q z))]; exact hS.2.1 q h1 h2, fun q hq => by
      rcases List.mem_append.mp hq with h | h
      · exact hS.2.2 q h
      · exact hAA _ (hL q h)⟩ T' rfl X'
  exact ⟨t2, st t2 a1, b1⟩
/-- the heap's size, by the count -/
theorem size_of {p : Program} {l : Launch} {e : Env} {R : Room} {s : State} {mt : MethodId} {args : Array Value} {below : List Frame} {meth : Method} {c : Code} {T : State} {locs : List Loc} {cs sl : Nat} (X : Stand p l e R s mt args below meth c T locs cs sl) : T.heap.size ≤ s.heap.size + cs := X.same.2.2.1
theorem size_at {lay : List Ent} {bs n : Nat} {cA : Nat → ClassId} {m : Wm} {G : va_G} {H : Heap} (hn : lay.length = n) (h0 : 0 < n) (hP : va_P G vwCl (cellsOf lay (adb bs) cA m) H) : bs + n ≤ H.size := by
  have hlt : n - 1 < lay.length := by omega
  have := (hP (n - 1) _ (cells_at (List.getElem?_eq_getElem hlt))).lt
  have h2 : bs + (n - 1) < H.size := this
  omega
section AWK
variable {X : Launch → State → (Nat → Prop) → Prop} {lay lay1 lq : List Ent} {bs n kc ks kc' ks' : Nat} {μ : MI} {d : Nat} {Q : Option Value → Wm → Prop} {pc : Nat} {L : List (Nat × Value)} {rest st : List Value} {m m1 : Wm}
def NewOK (own : String) (idx : Nat) (C' : String) (T : u_T) (ty0 : Nat → FieldType) (N ci : Nat) (cs : List Nat) : Prop := (∀ w ∈ u_ws C' T N, w ∈ TW) ∧ (∀ k, k < N → parseFieldDescriptor (T k).2.2.1 = some (ty0 k)) ∧ Cond.classLink own idx C' ∈ TW ∧ Cond.instantiable C' N ∈ TW ∧ Cond.initialized C' ∈ TW ∧ vwCl[ci]? = some (C', T, N) ∧ cs.length = N ∧ (∀ c ∈ cs, c ≤ 2) ∧ ∀ j, j < N → defaultValue (ty0 j) = dfl (cs.getD j 0)
theorem aw_new {idx ci N : Nat} {C' : String} {T : u_T} {ty0 : Nat → FieldType} {cs' : List Nat} (hd : decode μ.2.1 pc = .ok (.new idx, 3)) (hn : lay.length = n) (hN : NewOK μ.2.2.2.1 idx C' T ty0 N ci cs')
    (k : AWl (ps lay (.inl (ci, cs'))) (adb bs) (EK X bs (n + 1) kc ks lq) μ d Q (pc + 3) L (.ref (adb bs n) :: rest) (zm m n)) : AWl lay (adb bs) (EK X bs n (kc + 1) (ks + N) lq) μ d Q pc L rest m := by
  intro p l e R s mt args below meth c H locs cs sl G cA A ls Qz C hP hD hS hl
  have hts := C.1.2.2.2.2
  obtain ⟨hr1, hr2, hr3, hr4⟩ := C.2.2.2.2.1
  have hr3 : cs + (kc + 1) ≤ R.cells := hr3
  have hr4 : sl + (ks + N) ≤ R.slots := hr4
  obtain ⟨⟨⟨hz, hA1⟩, hX⟩, hnm, hnw⟩ := C.2.2.2.1
  obtain ⟨n1, n2, n3, n4, n5, n6, n7, n8, n9⟩ := hN
  refine va_new (ci := ci) (fs := fldVs (adb bs) (zm m n) n cs') (C := C') (T := T) (N := N) C.1.1 C.1.2.1 hts n1 ty0 n2 C.1.2.2.2.1 (hts _ n3) (hts _ n4) (hts _ n5) C.2.1 hP hD hS C.2.2.1 n6 (fun j hj => by rw [fld_born n8 (by rw [n7]; exact hj)]; exact n9 j hj) (by omega) (by omega) hd (fun q H1 hP1 hD1 hS1 => ?_)
  intro T1 hT1 X1
  have hs : H1.size ≤ bs + n + 1 := by have := size_of X1; rw [hT1] at this; have hz : s.heap.size + cs = bs + n := hz; omega
  obtain rfl := fresh_at hn hA1 hP1 hD1 hs
  exact k p l e R s mt args below meth c H1 locs (cs + 1) (sl + N) G cA A ls Qz ⟨C.1, C.2.1, C.2.2.1, ⟨⟨⟨by show s.heap.size + (cs + 1) = bs + (n + 1); have hz : s.heap.size + cs = bs + n := hz; omega, hA1⟩, hX⟩, hnm, hnw⟩, ⟨hr1, hr2, by show (cs + 1) + kc ≤ R.cells; omega, by show (sl + N) + ks ≤ R.slots; omega⟩, C.2.2.2.2.2⟩ (cells_push (e := .inl (ci, cs')) hn ▸ hP1) (cells_push (e := .inl (ci, cs')) hn ▸ hD1) hS1 hl T1 hT1 X1
theorem aw_newa0 {v : Int32} {N : Nat} (hd : decode μ.2.1 pc = .ok (.newarray .int, 2)) (hn : lay.length = n) (hw : Cond.arrayClass .int ∈ TW) (hv : ¬ v < 0) (hN : v.toNatClampNeg = N) (hb : N * componentBytes .int ≤ 536870912)
    (k : AWl (ps lay (.inr (0, N))) (adb bs) (EK X bs (n + 1) kc ks lq) μ d Q (pc + 2) L (.ref (adb bs n) :: rest) (zm m n)) : AWl lay (adb bs) (EK X bs n (kc + 1) (ks + N) lq) μ d Q pc L (.int v :: rest) m := by
  intro p l e R s mt args below meth c H locs cs sl G cA A ls Qz C hP hD hS hl
  have hts := C.1.2.2.2.2
  obtain ⟨hr1, hr2, hr3, hr4⟩ := C.2.2.2.2.1
  have hr3 : cs + (kc + 1) ≤ R.cells := hr3
  have hr4 : sl + (ks + N) ≤ R.slots := hr4
  obtain ⟨⟨⟨hz, hA1⟩, hX⟩, hnm, hnw⟩ := C.2.2.2.1
  refine va_newa (atype := .int) (ty := .int) (a0 := (N, .inl (fun _ => 0))) C.1.1 C.1.2.1 (hts _ hw) rfl C.2.1 hP hD hS C.2.2.1 (fun cA' => rfl) hv hN hb (by omega) (by omega) hd (fun q cA' H1 hK1 hP1 hD1 hS1 => ?_)
  intro T1 hT1 X1
  have hs : H1.size ≤ bs + n + 1 := by have := size_of X1; rw [hT1] at this; have hz : s.heap.size + cs = bs + n := hz; omega
  obtain rfl := fresh_at hn hA1 hP1 hD1 hs
  obtain rfl := cA_eq (t := 0) hK1 rfl
  have hx : (Sum.inl (cA 0, (N, .inl (fun _ => 0))) : va_E) = cellE (adb bs) cA (zm m n) n (.inr (0, N)) := by
    simp [cellE, arrV', zm]
  rw [hx] at hP1 hD1
  exact k p l e R s mt args below meth c H1 locs (cs + 1) (sl + N) G cA A ls Qz ⟨C.1, C.2.1, C.2.2.1, ⟨⟨⟨by show s.heap.size + (cs + 1) = bs + (n + 1); have hz : s.heap.size + cs = bs + n := hz; omega, hA1⟩, hX⟩, hnm, hnw⟩, ⟨hr1, hr2, by show (cs + 1) + kc ≤ R.cells; omega, by show (sl + N) + ks ≤ R.slots; omega⟩, C.2.2.2.2.2⟩ (cells_push (e := .inr (0, N)) hn ▸ hP1) (cells_push (e := .inr (0, N)) hn ▸ hD1) hS1 hl T1 hT1 X1
theorem aw_newa1 {v : Int32} {N : Nat} (hd : decode μ.2.1 pc = .ok (.newarray .byte, 2)) (hn : lay.length = n) (hw : Cond.arrayClass .byte ∈ TW) (hv : ¬ v < 0) (hN : v.toNatClampNeg = N) (hb : N * componentBytes .byte ≤ 536870912)
    (k : AWl (ps lay (.inr (1, N))) (adb bs) (EK X bs (n + 1) kc ks lq) μ d Q (pc + 2) L (.ref (adb bs n) :: rest) (zm m n)) : AWl lay (adb bs) (EK X bs n (kc + 1) (ks + N) lq) μ d Q pc L (.int v :: rest) m := by
  intro p l e R s mt args below meth c H locs cs sl G cA A ls Qz C hP hD hS hl
  have hts := C.1.2.2.2.2
  obtain ⟨hr1, hr2, hr3, hr4⟩ := C.2.2.2.2.1
  have hr3 : cs + (kc + 1) ≤ R.cells := hr3
  have hr4 : sl + (ks + N) ≤ R.slots := hr4
  obtain ⟨⟨⟨hz, hA1⟩, hX⟩, hnm, hnw⟩ := C.2.2.2.1
  refine va_newa (atype := .byte) (ty := .byte) (a0 := (N, .inl (fun _ => 0))) C.1.1 C.1.2.1 (hts _ hw) rfl C.2.1 hP hD hS C.2.2.1 (fun cA' => rfl) hv hN hb (by omega) (by omega) hd (fun q cA' H1 hK1 hP1 hD1 hS1 => ?_)
  intro T1 hT1 X1
  have hs : H1.size ≤ bs + n + 1 := by have := size_of X1; rw [hT1] at this; have hz : s.heap.size + cs = bs + n := hz; omega
  obtain rfl := fresh_at hn hA1 hP1 hD1 hs
  obtain rfl := cA_eq (t := 1) hK1 rfl
  have hx : (Sum.inl (cA 1, (N, .inl (fun _ => 0))) : va_E) = cellE (adb bs) cA (zm m n) n (.inr (1, N)) := by
    simp [cellE, arrV', zm]
  rw [hx] at hP1 hD1
  exact k p l e R s mt args below meth c H1 locs (cs + 1) (sl + N) G cA A ls Qz ⟨C.1, C.2.1, C.2.2.1, ⟨⟨⟨by show s.heap.size + (cs + 1) = bs + (n + 1); have hz : s.heap.size + cs = bs + n := hz; omega, hA1⟩, hX⟩, hnm, hnw⟩, ⟨hr1, hr2, by show (cs + 1) + kc ≤ R.cells; omega, by show (sl + N) + ks ≤ R.slots; omega⟩, C.2.2.2.2.2⟩ (cells_push (e := .inr (1, N)) hn ▸ hP1) (cells_push (e := .inr (1, N)) hn ▸ hD1) hS1 hl T1 hT1 X1
theorem aw_newa2 {v : Int32} {N : Nat} (hd : decode μ.2.1 pc = .ok (.newarray .char, 2)) (hn : lay.length = n) (hw : Cond.arrayClass .char ∈ TW) (hv : ¬ v < 0) (hN : v.toNatClampNeg = N) (hb : N * componentBytes .char ≤ 536870912)
    (k : AWl (ps lay (.inr (2, N))) (adb bs) (EK X bs (n + 1) kc ks lq) μ d Q (pc + 2) L (.ref (adb bs n) :: rest) (zm m n)) : AWl lay (adb bs) (EK X bs n (kc + 1) (ks + N) lq) μ d Q pc L (.int v :: rest) m := by
  intro p l e R s mt args below meth c H locs cs sl G cA A ls Qz C hP hD hS hl
  have hts := C.1.2.2.2.2
  obtain ⟨hr1, hr2, hr3, hr4⟩ := C.2.2.2.2.1
  have hr3 : cs + (kc + 1) ≤ R.cells := hr3
  have hr4 : sl + (ks + N) ≤ R.slots := hr4
  obtain ⟨⟨⟨hz, hA1⟩, hX⟩, hnm, hnw⟩ := C.2.2.2.1
  refine va_newa (atype := .char) (ty := .char) (a0 := (N, .inl (fun _ => 0))) C.1.1 C.1.2.1 (hts _ hw) rfl C.2.1 hP hD hS C.2.2.1 (fun cA' => rfl) hv hN hb (by omega) (by omega) hd (fun q cA' H1 hK1 hP1 hD1 hS1 => ?_)
  intro T1 hT1 X1
  have hs : H1.size ≤ bs + n + 1 := by have := size_of X1; rw [hT1] at this; have hz : s.heap.size + cs = bs + n := hz; omega
  obtain rfl := fresh_at hn hA1 hP1 hD1 hs
  obtain rfl := cA_eq (t := 2) hK1 rfl
  have hx : (Sum.inl (cA 2, (N, .inl (fun _ => 0))) : va_E) = cellE (adb bs) cA (zm m n) n (.inr (2, N)) := by
    simp [cellE, arrV', zm]
  rw [hx] at hP1 hD1
  exact k p l e R s mt args below meth c H1 locs (cs + 1) (sl + N) G cA A ls Qz ⟨C.1, C.2.1, C.2.2.1, ⟨⟨⟨by show s.heap.size + (cs + 1) = bs + (n + 1); have hz : s.heap.size + cs = bs + n := hz; omega, hA1⟩, hX⟩, hnm, hnw⟩, ⟨hr1, hr2, by show (cs + 1) + kc ≤ R.cells; omega, by show (sl + N) + ks ≤ R.slots; omega⟩, C.2.2.2.2.2⟩ (cells_push (e := .inr (2, N)) hn ▸ hP1) (cells_push (e := .inr (2, N)) hn ▸ hD1) hS1 hl T1 hT1 X1
theorem aw_newa3 {v : Int32} {N : Nat} (hd : decode μ.2.1 pc = .ok (.newarray .boolean, 2)) (hn : lay.length = n) (hw : Cond.arrayClass .boolean ∈ TW) (hv : ¬ v < 0) (hN : v.toNatClampNeg = N) (hb : N * componentBytes .boolean ≤ 536870912)
    (k : AWl (ps lay (.inr (3, N))) (adb bs) (EK X bs (n + 1) kc ks lq) μ d Q (pc + 2) L (.ref (adb bs n) :: rest) (zm m n)) : AWl lay (adb bs) (EK X bs n (kc + 1) (ks + N) lq) μ d Q pc L (.int v :: rest) m := by
  intro p l e R s mt args below meth c H locs cs sl G cA A ls Qz C hP hD hS hl
  have hts := C.1.2.2.2.2
  obtain ⟨hr1, hr2, hr3, hr4⟩ := C.2.2.2.2.1
  have hr3 : cs + (kc + 1) ≤ R.cells := hr3
  have hr4 : sl + (ks + N) ≤ R.slots := hr4
  obtain ⟨⟨⟨hz, hA1⟩, hX⟩, hnm, hnw⟩ := C.2.2.2.1
  refine va_newa (atype := .boolean) (ty := .boolean) (a0 := (N, .inl (fun _ => 0))) C.1.1 C.1.2.1 (hts _ hw) rfl C.2.1 hP hD hS C.2.2.1 (fun cA' => rfl) hv hN hb (by omega) (by omega) hd (fun q cA' H1 hK1 hP1 hD1 hS1 => ?_)
  intro T1 hT1 X1
  have hs : H1.size ≤ bs + n + 1 := by have := size_of X1; rw [hT1] at this; have hz : s.heap.size + cs = bs + n := hz; omega
  obtain rfl := fresh_at hn hA1 hP1 hD1 hs
  obtain rfl := cA_eq (t := 3) hK1 rfl
  have hx : (Sum.inl (cA 3, (N, .inl (fun _ => 0))) : va_E) = cellE (adb bs) cA (zm m n) n (.inr (3, N)) := by
    simp [cellE, arrV', zm]
  rw [hx] at hP1 hD1
  exact k p l e R s mt args below meth c H1 locs (cs + 1) (sl + N) G cA A ls Qz ⟨C.1, C.2.1, C.2.2.1, ⟨⟨⟨by show s.heap.size + (cs + 1) = bs + (n + 1); have hz : s.heap.size + cs = bs + n := hz; omega, hA1⟩, hX⟩, hnm, hnw⟩, ⟨hr1, hr2, by show (cs + 1) + kc ≤ R.cells; omega, by show (sl + N) + ks ≤ R.slots; omega⟩, C.2.2.2.2.2⟩ (cells_push (e := .inr (3, N)) hn ▸ hP1) (cells_push (e := .inr (3, N)) hn ▸ hD1) hS1 hl T1 hT1 X1
theorem aw_newa4 {v : Int32} {N : Nat} (hd : decode μ.2.1 pc = .ok (.newarray .long, 2)) (hn : lay.length = n) (hw : Cond.arrayClass .long ∈ TW) (hv : ¬ v < 0) (hN : v.toNatClampNeg = N) (hb : N * componentBytes .long ≤ 536870912)
    (k : AWl (ps lay (.inr (4, N))) (adb bs) (EK X bs (n + 1) kc ks lq) μ d Q (pc + 2) L (.ref (adb bs n) :: rest) (zm m n)) : AWl lay (adb bs) (EK X bs n (kc + 1) (ks + N) lq) μ d Q pc L (.int v :: rest) m := by
  intro p l e R s mt args below meth c H locs cs sl G cA A ls Qz C hP hD hS hl
  have hts := C.1.2.2.2.2
  obtain ⟨hr1, hr2, hr3, hr4⟩ := C.2.2.2.2.1
  have hr3 : cs + (kc + 1) ≤ R.cells := hr3
  have hr4 : sl + (ks + N) ≤ R.slots := hr4
  obtain ⟨⟨⟨hz, hA1⟩, hX⟩, hnm, hnw⟩ := C.2.2.2.1
  refine va_newa (atype := .long) (ty := .long) (a0 := (N, .inr (.inl (fun _ => 0)))) C.1.1 C.1.2.1 (hts _ hw) rfl C.2.1 hP hD hS C.2.2.1 (fun cA' => rfl) hv hN hb (by omega) (by omega) hd (fun q cA' H1 hK1 hP1 hD1 hS1 => ?_)
  intro T1 hT1 X1
  have hs : H1.size ≤ bs + n + 1 := by have := size_of X1; rw [hT1] at this; have hz : s.heap.size + cs = bs + n := hz; omega
  obtain rfl := fresh_at hn hA1 hP1 hD1 hs
  obtain rfl := cA_eq (t := 4) hK1 rfl
  have hx : (Sum.inl (cA 4, (N, .inr (.inl (fun _ => 0)))) : va_E) = cellE (adb bs) cA (zm m n) n (.inr (4, N)) := by
    simp [cellE, arrV', zm]
  rw [hx] at hP1 hD1
  exact k p l e R s mt args below meth c H1 locs (cs + 1) (sl + N) G cA A ls Qz ⟨C.1, C.2.1, C.2.2.1, ⟨⟨⟨by show s.heap.size + (cs + 1) = bs + (n + 1); have hz : s.heap.size + cs = bs + n := hz; omega, hA1⟩, hX⟩, hnm, hnw⟩, ⟨hr1, hr2, by show (cs + 1) + kc ≤ R.cells; omega, by show (sl + N) + ks ≤ R.slots; omega⟩, C.2.2.2.2.2⟩ (cells_push (e := .inr (4, N)) hn ▸ hP1) (cells_push (e := .inr (4, N)) hn ▸ hD1) hS1 hl T1 hT1 X1
theorem aw_newq5 {idx : Nat} {v : Int32} {N : Nat} (hd : decode μ.2.1 pc = .ok (.anewarray idx, 3)) (hn : lay.length = n) (hw : Cond.classLink μ.2.2.2.1 idx RX0 ∈ TW) (hv : ¬ v < 0) (hN : v.toNatClampNeg = N) (hb : N * 4 ≤ 536870912)
    (k : AWl (ps lay (.inr (5, N))) (adb bs) (EK X bs (n + 1) kc ks lq) μ d Q (pc + 3) L (.ref (adb bs n) :: rest) (zm m n)) : AWl lay (adb bs) (EK X bs n (kc + 1) (ks + N) lq) μ d Q pc L (.int v :: rest) m := by
  intro p l e R s mt args below meth c H locs cs sl G cA A ls Qz C hP hD hS hl
  have hts := C.1.2.2.2.2
  obtain ⟨hr1, hr2, hr3, hr4⟩ := C.2.2.2.2.1
  have hr3 : cs + (kc + 1) ≤ R.cells := hr3
  have hr4 : sl + (ks + N) ≤ R.slots := hr4
  obtain ⟨⟨⟨hz, hA1⟩, hX⟩, hnm, hnw⟩ := C.2.2.2.1
  refine va_newq C.1.1 C.1.2.1 C.1.2.2.2.1 (hts _ hw) hnw.2.1 C.2.1 hP hD hS C.2.2.1 hv hN hb (by omega) (by omega) hd (fun q cA' H1 hK1 hP1 hD1 hS1 => ?_)
  intro T1 hT1 X1
  have hs : H1.size ≤ bs + n + 1 := by have := size_of X1; rw [hT1] at this; have hz : s.heap.size + cs = bs + n := hz; omega
  obtain rfl := fresh_at hn hA1 hP1 hD1 hs
  obtain rfl := cA_eq (t := 5) hK1 rfl
  have hx : (Sum.inl (cA 5, (N, .inr (.inr (.inr (.inr (fun _ => none)))))) : va_E) = cellE (adb bs) cA (zm m n) n (.inr (5, N)) := by
    simp [cellE, arrV', zm]
  rw [hx] at hP1 hD1
  exact k p l e R s mt args below meth c H1 locs (cs + 1) (sl + N) G cA A ls Qz ⟨C.1, C.2.1, C.2.2.1, ⟨⟨⟨by show s.heap.size + (cs + 1) = bs + (n + 1); have hz : s.heap.size + cs = bs + n := hz; omega, hA1⟩, hX⟩, hnm, hnw⟩, ⟨hr1, hr2, by show (cs + 1) + kc ≤ R.cells; omega, by show (sl + N) + ks ≤ R.slots; omega⟩, C.2.2.2.2.2⟩ (cells_push (e := .inr (5, N)) hn ▸ hP1) (cells_push (e := .inr (5, N)) hn ▸ hD1) hS1 hl T1 hT1 X1
theorem aw_aastore5 {ad : Nat → Nat} {E : EB} {a N b : Nat} {i : Int32} {cs' : List Nat} (hd : decode μ.2.1 pc = .ok (.aastore, 1)) (he : lay[a]? = some (.inr (5, N))) (hb : lay[b]? = some (.inl (0, cs'))) (hi : vp_in i N) (k : AWl lay ad E μ d Q (pc + 1) L rest (uR m a i.toNatClampNeg (some b))) : AWl lay ad E μ d Q pc L (.ref (ad b) :: .int i :: .ref (ad a) :: rest) m := fun p l e R s mt args below meth c H locs cs sl G cA A ls Qz C hP hD hS hl => va_astq (r := (RX0, TX0, 5)) C.1.1 C.1.2.1 C.2.1 hP hD hS a 5 b 0 (arR_at he (by decide)) rfl (ob_at hb) rfl hi hd (fun H1 locs1 hP1 hD1 hS1 => k p l e R s mt args below meth c H1 locs1 cs sl G cA A ls Qz C (set_arR he (by decide) ▸ hP1) (cells_D hD) hS1 hl)
theorem aw_newq6 {idx : Nat} {v : Int32} {N : Nat} (hd : decode μ.2.1 pc = .ok (.anewarray idx, 3)) (hn : lay.length = n) (hw : Cond.classLink μ.2.2.2.1 idx RX8 ∈ TW) (hv : ¬ v < 0) (hN : v.toNatClampNeg = N) (hb : N * 4 ≤ 536870912)
    (k : AWl (ps lay (.inr (6, N))) (adb bs) (EK X bs (n + 1) kc ks lq) μ d Q (pc + 3) L (.ref (adb bs n) :: rest) (zm m n)) : AWl lay (adb bs) (EK X bs n (kc + 1) (ks + N) lq) μ d Q pc L (.int v :: rest) m := by
  intro p l e R s mt args below meth c H locs cs sl G cA A ls Qz C hP hD hS hl
  have hts := C.1.2.2.2.2
  obtain ⟨hr1, hr2, hr3, hr4⟩ := C.2.2.2.2.1
  have hr3 : cs + (kc + 1) ≤ R.cells := hr3
  have hr4 : sl + (ks + N) ≤ R.slots := hr4
  obtain ⟨⟨⟨hz, hA1⟩, hX⟩, hnm, hnw⟩ := C.2.2.2.1
  refine va_newq C.1.1 C.1.2.1 C.1.2.2.2.1 (hts _ hw) hnw.2.2 C.2.1 hP hD hS C.2.2.1 hv hN hb (by omega) (by omega) hd (fun q cA' H1 hK1 hP1 hD1 hS1 => ?_)
  intro T1 hT1 X1
  have hs : H1.size ≤ bs + n + 1 := by have := size_of X1; rw [hT1] at this; have hz : s.heap.size + cs = bs + n := hz; omega
  obtain rfl := fresh_at hn hA1 hP1 hD1 hs
  obtain rfl := cA_eq (t := 6) hK1 rfl
  have hx : (Sum.inl (cA 6, (N, .inr (.inr (.inr (.inr (fun _ => none)))))) : va_E) = cellE (adb bs) cA (zm m n) n (.inr (6, N)) := by
    simp [cellE, arrV', zm]
  rw [hx] at hP1 hD1
  exact k p l e R s mt args below meth c H1 locs (cs + 1) (sl + N) G cA A ls Qz ⟨C.1, C.2.1, C.2.2.1, ⟨⟨⟨by show s.heap.size + (cs + 1) = bs + (n + 1); have hz : s.heap.size + cs = bs + n := hz; omega, hA1⟩, hX⟩, hnm, hnw⟩, ⟨hr1, hr2, by show (cs + 1) + kc ≤ R.cells; omega, by show (sl + N) + ks ≤ R.slots; omega⟩, C.2.2.2.2.2⟩ (cells_push (e := .inr (6, N)) hn ▸ hP1) (cells_push (e := .inr (6, N)) hn ▸ hD1) hS1 hl T1 hT1 X1
theorem aw_aastore6 {ad : Nat → Nat} {E : EB} {a N b : Nat} {i : Int32} {cs' : List Nat} (hd : decode μ.2.1 pc = .ok (.aastore, 1)) (he : lay[a]? = some (.inr (6, N))) (hb : lay[b]? = some (.inl (8, cs'))) (hi : vp_in i N) (k : AWl lay ad E μ d Q (pc + 1) L rest (uR m a i.toNatClampNeg (some b))) : AWl lay ad E μ d Q pc L (.ref (ad b) :: .int i :: .ref (ad a) :: rest) m := fun p l e R s mt args below meth c H locs cs sl G cA A ls Qz C hP hD hS hl => va_astq (r := (RX8, TX8, 5)) C.1.1 C.1.2.1 C.2.1 hP hD hS a 6 b 8 (arR_at he (by decide)) rfl (ob_at hb) rfl hi hd (fun H1 locs1 hP1 hD1 hS1 => k p l e R s mt args below meth c H1 locs1 cs sl G cA A ls Qz C (set_arR he (by decide) ▸ hP1) (cells_D hD) hS1 hl)
theorem aw_putFR {ad : Nat → Nat} {E : EB} {C' : String} {T : u_T} {ty0 : Nat → FieldType} {N ci k idx a : Nat} {cs' : List Nat} {x : Nat} (hd : decode μ.2.1 pc = .ok (.putfield idx, 3)) (hf : FldOK μ.2.2.2.1 C' T N ci k idx) (hcl : ClsOK C' T ty0 N) (hi : μ.1.name = "<init>") (ho : C' = μ.2.2.2.1) (hnf : (T k).2.2.2 = true) (he : lay[a]? = some (.inl (ci, cs'))) (hc : cs'[k]? = some 2) (hn : narrow (ty0 k) (.ref (ad x)) = .ref (ad x)) (hfit : fits (ty0 k) (.ref (ad x)) = true) (k' : AWl lay ad E μ d Q (pc + 3) L rest (uR m a k (some x))) : AWl lay ad E μ d Q pc L (.ref (ad x) :: .ref (ad a) :: rest) m := fun p l e R s mt args below meth c H locs cs sl G cA A ls Qz C hP hD hS hl => va_putF (ty := ty0 k) C.1.1 C.1.2.1 C.1.2.2.2.2 hf.1 ty0 hcl.1 hcl.2 C.1.2.2.2.1 C.2.1 hP hD hS a (ob_at he) hf.2.1 k hf.2.2.1 (C.1.2.2.2.2 _ hf.2.2.2.2) (fun x h => by rw [hf.2.2.2.1] at h; exact h) hnf (C.2.2.2.1.2.1 hi) (hf.2.2.2.1.trans ho) (hcl.1 k hf.2.2.1) hn hfit (by rw [fldVs_len]; exact (List.getElem?_eq_some_iff.mp hc).1) hd (fun H1 locs1 hP1 hD1 hS1 => k' p l e R s mt args below meth c H1 locs1 cs sl G cA A ls Qz C ((set_ref he hc) ▸ hP1) (cells_D hD) hS1 hl)
def ObjOK (own : String) (idx : Nat) : Prop := Cond.methodLink own idx Lib.objectInit ∈ TW ∧ Cond.instanceMethod Lib.objectInit ∈ TW ∧ Cond.code Lib.objectInit ⟨#[0xb1]⟩ 1 none ∈ TW
theorem aw_objInit {ad : Nat → Nat} {E : EB} {idx a : Nat} (hd : decode μ.2.1 pc = .ok (.invokespecial idx, 3)) (cw : ObjOK μ.2.2.2.1 idx) (hW : (rest.map fun v => v.category).sum ≤ 8) (k : AWl lay ad E μ (d + 1) Q (pc + 3) L rest m) : AWl lay ad E μ (d + 1) Q pc L (.ref a :: rest) m := by
  intro p l e R s mt args below meth c H locs cs sl G cA A ls Qz C hP hD hS hl
  have hts := C.1.2.2.2.2
  obtain ⟨hr1, hr2, hr3, hr4⟩ := C.2.2.2.2.1
  refine W.objInit C.1.1 C.1.2.1 C.1.2.2.2.1 (hts _ cw.1) (hts _ cw.2.1) (hts _ cw.2.2) rfl (hl.1.trans C.1.2.2.1.symm) rfl hd (by omega) (by have := lv_room (pc := pc) (ls := ls) (rest := .ref a :: rest) (m := mt) hW; omega) ?_
  exact W.eq (g2 := F0 mt (pc + 3) ls rest) rfl (k p l e R s mt args below meth c H locs cs sl G cA A ls Qz C hP hD hS hl)
theorem aw_callI {idx b : Nat} {μ' : MI} (As : List Value) (hd : decode μ.2.1 pc = .ok (.invokespecial idx, 3)) (hn : lay.length = n) (h0 : 0 < n) (hn1 : lay1.length = n + kc') (cw : CallI μ.2.2.2.1 idx μ' As.length) (hst : st = As.reverse ++ .ref b :: rest) (hM : CtK bs lay lay1 μ' d kc' ks' (.ref b :: As) m m1) (hW : (rest.map fun v => v.category).sum ≤ 8)
    (k : AWl lay1 (adb bs) (EK X bs (n + kc') kc ks lq) μ (d + 1) Q (pc + 3) L rest m1) : AWl lay (adb bs) (EK X bs n (kc + kc') (ks + ks') lq) μ (d + 1) Q pc L st m := by
  subst hst
  subst hn
  intro p l e R s mt args below meth c H locs cs sl G cA A ls Qz C hP hD hS hl
  obtain ⟨w1, w2, w4, w5, w6, w7, w8, w9⟩ := cw
  have hts := C.1.2.2.2.2
  obtain ⟨hr1, hr2, hr3, hr4⟩ := C.2.2.2.2.1
  have hr3 : cs + (kc + kc') ≤ R.cells := hr3
  have hr4 : sl + (ks + ks') ≤ R.slots := hr4
  obtain ⟨⟨⟨hz, hA1⟩, hX⟩, hnm, hnw⟩ := C.2.2.2.1
  have hz : s.heap.size + cs = bs + lay.length := hz
  intro T hT XX
  have hs : H.size = bs + lay.length := by
    have h1 := size_of XX
    rw [hT] at h1
    have h2 := size_at rfl h0 hP
    omega
  have hM := hM l G cA
  rw [w9] at hM
  refine (aw_runK (va_runI (As := As) (rest := rest) (n := As.length) C.1 hM ⟨callB_of As.length hts (good_tbl w5) rfl rfl rfl (hts _ w4) (hts _ w1) w6 ⟨hr1, by show 8 + (μ'.2.2.1 + 11) + 41 * d ≤ R.locals; omega⟩, w8, hts _ w2⟩ ⟨PCt.blind, fun U hU hW' => ⟨rfl, by rw [hU]; exact hs, by rw [hU]; exact hP, va_K.moved hW'.alike C.2.1, hD.weaken (fun _ _ _ _ => trivial), NWs.warm hW' hnw⟩⟩ rfl rfl hl.1 rfl (lv_room hW) hd ⟨by omega, by omega⟩) hs hD hS C.2.2.1 (fun H1 locs1 hP1 hD1 hS1 => k p l e R s mt args below meth c H1 locs1 (cs + kc') (sl + ks') G cA A ls Qz ⟨C.1, C.2.1, C.2.2.1, ⟨⟨⟨by show s.heap.size + (cs + kc') = bs + (lay.length + kc'); omega, hA1⟩, hX⟩, hnm, hnw⟩, ⟨hr1, hr2, by show (cs + kc') + kc ≤ R.cells; omega, by show (sl + ks') + ks ≤ R.slots; omega⟩, C.2.2.2.2.2⟩ hP1 hD1 hS1 hl)) T hT XX
theorem aw_callIN {idx b : Nat} {host : String} {μ' : MI} (As : List Value) (hd : decode μ.2.1 pc = .ok (.invokespecial idx, 3)) (hn : lay.length = n) (h0 : 0 < n) (hn1 : lay1.length = n + kc') (cw : CallIN μ.2.2.2.1 idx host μ' As.length) (hst : st = As.reverse ++ .ref b :: rest) (hM : CtK bs lay lay1 μ' d kc' ks' (.ref b :: As) m m1) (hW : (rest.map fun v => v.category).sum ≤ 8)
    (k : AWl lay1 (adb bs) (EK X bs (n + kc') kc ks lq) μ (d + 1) Q (pc + 3) L rest m1) : AWl lay (adb bs) (EK X bs n (kc + kc') (ks + ks') lq) μ (d + 1) Q pc L st m := by
  subst hst
  subst hn
  intro p l e R s mt args below meth c H locs cs sl G cA A ls Qz C hP hD hS hl
  obtain ⟨w1, w2, w4, w5, w6, w7, w8, w9⟩ := cw
  have hts := C.1.2.2.2.2
  obtain ⟨hr1, hr2, hr3, hr4⟩ := C.2.2.2.2.1
  have hr3 : cs + (kc + kc') ≤ R.cells := hr3
  have hr4 : sl + (ks + ks') ≤ R.slots := hr4
  obtain ⟨⟨⟨hz, hA1⟩, hX⟩, hnm, hnw⟩ := C.2.2.2.1
  have hz : s.heap.size + cs = bs + lay.length := hz
  intro T hT XX
  have hs : H.size = bs + lay.length := by
    have h1 := size_of XX
    rw [hT] at h1
    have h2 := size_at rfl h0 hP
    omega
  have hM := hM l G cA
  rw [w9] at hM
  refine (aw_runK (va_runIN (As := As) (rest := rest) (n := As.length) (host := host) C.1 hM ⟨⟨⟨rfl, rfl, hr1, by show 8 + (μ'.2.2.1 + 11) + 41 * d ≤ R.locals; omega, pay_in hts (good_tbl w5), List.mem_cons_self⟩, hts _ w5, hts _ w4, ⟨w6.1, w6.2.1⟩, fun sig h => by have h2 := w6.2.2; rw [h] at h2; exact (Option.some.inj h2).symm, va_Nw.use rfl (hnw.1 _ w1)⟩, w8, hts _ w2⟩ ⟨PCt.blind, fun U hU hW' => ⟨rfl, by rw [hU]; exact hs, by rw [hU]; exact hP, va_K.moved hW'.alike C.2.1, hD.weaken (fun _ _ _ _ => trivial), NWs.warm hW' hnw⟩⟩ rfl rfl hl.1 rfl (lv_room hW) hd ⟨by omega, by omega⟩) hs hD hS C.2.2.1 (fun H1 locs1 hP1 hD1 hS1 => k p l e R s mt args below meth c H1 locs1 (cs + kc') (sl + ks') G cA A ls Qz ⟨C.1, C.2.1, C.2.2.1, ⟨⟨⟨by show s.heap.size + (cs + kc') = bs + (lay.length + kc'); omega, hA1⟩, hX⟩, hnm, hnw⟩, ⟨hr1, hr2, by show (cs + kc') + kc ≤ R.cells; omega, by show (sl + ks') + ks ≤ R.slots; omega⟩, C.2.2.2.2.2⟩ hP1 hD1 hS1 hl)) T hT XX
end AWK
theorem w_119 : Cond.methodLink RL 19 yX11_init ∈ TW := tc1 (mq_mem (n := 23) rfl) (by decide +kernel)
theorem w_120 : Cond.instanceMethod yX11_init ∈ TW := tc1 (mq_mem (n := 24) rfl) (by decide +kernel)
theorem w_121 : Cond.code yX11_init cX11_init 3 none ∈ TW := tc1 (mq_mem (n := 25) rfl) (by decide +kernel)
theorem w_122 : Cond.methodLink RX11 3 Lib.objectInit ∈ TW := tc1 (mq_mem (n := 26) rfl) (by decide +kernel)
theorem w_123 : Cond.instanceMethod Lib.objectInit ∈ TW := tc1 (mq_mem (n := 27) rfl) (by decide +kernel)
theorem w_124 : Cond.code Lib.objectInit ⟨#[0xb1]⟩ 1 none ∈ TW := tc1 (mq_mem (n := 28) rfl) (by decide +kernel)
theorem w_128 : Cond.instanceMethod yX10_init ∈ TW := tc1 (mq_mem (n := 32) rfl) (by decide +kernel)
theorem w_129 : Cond.code yX10_init cX10_init 1 none ∈ TW := tc1 (mq_mem (n := 33) rfl) (by decide +kernel)
theorem w_130 : Cond.methodLink RX10 1 Lib.objectInit ∈ TW := tc1 (mq_mem (n := 34) rfl) (by decide +kernel)
theorem w_149 : Cond.instanceMethod yX1_init ∈ TW := tc1 (mq_mem (n := 53) rfl) (by decide +kernel)
theorem w_150 : Cond.code yX1_init cX1_init 1 none ∈ TW := tc1 (mq_mem (n := 54) rfl) (by decide +kernel)
theorem w_151 : Cond.methodLink RX1 3 Lib.objectInit ∈ TW := tc1 (mq_mem (n := 55) rfl) (by decide +kernel)
theorem w_155 : Cond.instanceMethod yX5_init ∈ TW := tc1 (mq_mem (n := 59) rfl) (by decide +kernel)
theorem w_156 : Cond.code yX5_init cX5_init 1 none ∈ TW := tc1 (mq_mem (n := 60) rfl) (by decide +kernel)
theorem w_157 : Cond.methodLink RX5 3 Lib.objectInit ∈ TW := tc1 (mq_mem (n := 61) rfl) (by decide +kernel)
theorem w_231 : Cond.instanceMethod yX4_init ∈ TW := tc1 (mq_mem (n := 135) rfl) (by decide +kernel)
theorem w_232 : Cond.code yX4_init cX4_init 1 none ∈ TW := tc1 (mq_mem (n := 136) rfl) (by decide +kernel)
theorem w_233 : Cond.methodLink RX4 3 Lib.objectInit ∈ TW := tc1 (mq_mem (n := 137) rfl) (by decide +kernel)
theorem w_237 : Cond.instanceMethod yX8_init ∈ TW := tc1 (mq_mem (n := 141) rfl) (by decide +kernel)
theorem w_238 : Cond.code yX8_init cX8_init 1 none ∈ TW := tc1 (mq_mem (n := 142) rfl) (by decide +kernel)
theorem w_239 : Cond.methodLink RX8 3 Lib.objectInit ∈ TW := tc1 (mq_mem (n := 143) rfl) (by decide +kernel)
theorem w_296 : Cond.methodLink RX11 42 yX2_init ∈ TW := tc1 (mq_mem (n := 200) rfl) (by decide +kernel)
theorem w_297 : Cond.instanceMethod yX2_init ∈ TW := tc1 (mq_mem (n := 201) rfl) (by decide +kernel)
theorem w_298 : Cond.code yX2_init cX2_init 2 none ∈ TW := tc1 (mq_mem (n := 202) rfl) (by decide +kernel)
theorem w_299 : Cond.methodLink RX2 1 Lib.objectInit ∈ TW := tc1 (mq_mem (n := 203) rfl) (by decide +kernel)
theorem w_319 : Cond.instanceMethod yX3_init ∈ TW := tc1 (mq_mem (n := 223) rfl) (by decide +kernel)
theorem w_320 : Cond.code yX3_init cX3_init 1 none ∈ TW := tc1 (mq_mem (n := 224) rfl) (by decide +kernel)
theorem w_321 : Cond.methodLink RX3 5 Lib.objectInit ∈ TW := tc1 (mq_mem (n := 225) rfl) (by decide +kernel)
theorem w_362 : Cond.instanceMethod yX9_init ∈ TW := tc2 (mq_mem (n := 26) rfl) (by decide +kernel)
theorem w_363 : Cond.code yX9_init cX9_init 1 none ∈ TW := tc2 (mq_mem (n := 27) rfl) (by decide +kernel)
theorem w_364 : Cond.methodLink RX9 3 Lib.objectInit ∈ TW := tc2 (mq_mem (n := 28) rfl) (by decide +kernel)
theorem w_394 : Cond.methodLink RX11 95 yX6_init ∈ TW := tc2 (mq_mem (n := 58) rfl) (by decide +kernel)
theorem w_395 : Cond.instanceMethod yX6_init ∈ TW := tc2 (mq_mem (n := 59) rfl) (by decide +kernel)
theorem w_396 : Cond.code yX6_init cX6_init 2 none ∈ TW := tc2 (mq_mem (n := 60) rfl) (by decide +kernel)
theorem w_397 : Cond.methodLink RX6 3 Lib.objectInit ∈ TW := tc2 (mq_mem (n := 61) rfl) (by decide +kernel)
theorem w_427 : Cond.methodLink RX11 104 yX7_init ∈ TW := tc2 (mq_mem (n := 91) rfl) (by decide +kernel)
theorem w_428 : Cond.instanceMethod yX7_init ∈ TW := tc2 (mq_mem (n := 92) rfl) (by decide +kernel)
theorem w_429 : Cond.code yX7_init cX7_init 2 none ∈ TW := tc2 (mq_mem (n := 93) rfl) (by decide +kernel)
theorem w_430 : Cond.methodLink RX7 3 Lib.objectInit ∈ TW := tc2 (mq_mem (n := 94) rfl) (by decide +kernel)
theorem w_460 : Cond.instanceMethod yX0_init ∈ TW := tc2 (mq_mem (n := 124) rfl) (by decide +kernel)
theorem w_461 : Cond.code yX0_init cX0_init 1 none ∈ TW := tc2 (mq_mem (n := 125) rfl) (by decide +kernel)
theorem w_462 : Cond.methodLink RX0 3 Lib.objectInit ∈ TW := tc2 (mq_mem (n := 126) rfl) (by decide +kernel)
theorem w_1257 : Cond.methodLink RL 22 yX12_init ∈ TW := tc5 (mq_mem (n := 201) rfl) (by decide +kernel)
theorem w_1258 : Cond.instanceMethod yX12_init ∈ TW := tc5 (mq_mem (n := 202) rfl) (by decide +kernel)
theorem w_1259 : Cond.code yX12_init cX12_init 1 none ∈ TW := tc5 (mq_mem (n := 203) rfl) (by decide +kernel)
theorem w_1260 : Cond.methodLink RX12 3 Lib.objectInit ∈ TW := tc5 (mq_mem (n := 204) rfl) (by decide +kernel)
theorem nw_L_8 : NewOK RL 8 RX11 TX11 tyX11 19 11 [2, 2, 2, 2, 2, 2, 2, 2, 2, 2, 2, 0, 2, 2, 2, 0, 2, 2, 0] := ⟨tX11, tyX11_ok, w_117, w_118, w_97, rfl, rfl, by decide, by decide +kernel⟩
theorem ki_L_19 : CallI RL 19 μX11_init 0 := ⟨w_119, w_120, w_97, w_121, ⟨qcl_0.1, qcl_0.2, qde_10⟩, Nat.le_of_ble_eq_true rfl, rfl, rfl⟩
theorem ob_X11_3 : ObjOK RX11 3 := ⟨w_122, w_123, w_124⟩
theorem nw_X11_9 : NewOK RX11 9 RX10 TX10 tyX10 2 10 [2, 0] := ⟨tX10, tyX10_ok, w_125, w_126, w_98, rfl, rfl, by decide, by decide +kernel⟩
theorem ki_X11_11 : CallIN RX11 11 RX11 μX10_init 0 := ⟨mq_mem (n := 0) rfl, w_128, w_98, w_129, ⟨qcl_1.1, qcl_1.2, qde_10⟩, Nat.le_of_ble_eq_true rfl, rfl, rfl⟩
theorem ob_X10_1 : ObjOK RX10 1 := ⟨w_130, w_123, w_124⟩
theorem nw_X11_16 : NewOK RX11 16 RX1 TX1 tyX1 8 1 [2, 2, 2, 0, 0, 0, 0, 0] := ⟨tX1, tyX1_ok, w_146, w_147, w_99, rfl, rfl, by decide, by decide +kernel⟩
theorem ki_X11_18 : CallIN RX11 18 RX11 μX1_init 0 := ⟨mq_mem (n := 1) rfl, w_149, w_99, w_150, ⟨qcl_6.1, qcl_6.2, qde_10⟩, Nat.le_of_ble_eq_true rfl, rfl, rfl⟩
theorem ob_X1_3 : ObjOK RX1 3 := ⟨w_151, w_123, w_124⟩
theorem nw_X1_15 : NewOK RX1 15 RX5 TX5 tyX5 9 5 [2, 2, 2, 2, 0, 0, 0, 0, 0] := ⟨tX5, tyX5_ok, w_152, w_153, w_100, rfl, rfl, by decide, by decide +kernel⟩
theorem ki_X1_17 : CallIN RX1 17 RX11 μX5_init 0 := ⟨mq_mem (n := 2) rfl, w_155, w_100, w_156, ⟨qcl_5.1, qcl_5.2, qde_10⟩, Nat.le_of_ble_eq_true rfl, rfl, rfl⟩
theorem ob_X5_3 : ObjOK RX5 3 := ⟨w_157, w_123, w_124⟩
theorem nw_X11_23 : NewOK RX11 23 RX4 TX4 tyX4 8 4 [2, 0, 0, 0, 0, 0, 0, 0] := ⟨tX4, tyX4_ok, w_228, w_229, w_101, rfl, rfl, by decide, by decide +kernel⟩
theorem ki_X11_25 : CallIN RX11 25 RX11 μX4_init 0 := ⟨mq_mem (n := 3) rfl, w_231, w_101, w_232, ⟨qcl_2.1, qcl_2.2, qde_10⟩, Nat.le_of_ble_eq_true rfl, rfl, rfl⟩
theorem ob_X4_3 : ObjOK RX4 3 := ⟨w_233, w_123, w_124⟩
theorem nw_X4_9 : NewOK RX4 9 RX8 TX8 tyX8 5 8 [2, 2, 2, 2, 0] := ⟨tX8, tyX8_ok, w_234, w_235, w_102, rfl, rfl, by decide, by decide +kernel⟩
theorem ki_X4_11 : CallIN RX4 11 RX11 μX8_init 0 := ⟨mq_mem (n := 4) rfl, w_237, w_102, w_238, ⟨qcl_3.1, qcl_3.2, qde_10⟩, Nat.le_of_ble_eq_true rfl, rfl, rfl⟩
theorem ob_X8_3 : ObjOK RX8 3 := ⟨w_239, w_123, w_124⟩
theorem nw_X11_30 : NewOK RX11 30 RX8 TX8 tyX8 5 8 [2, 2, 2, 2, 0] := ⟨tX8, tyX8_ok, w_292, w_235, w_102, rfl, rfl, by decide, by decide +kernel⟩
theorem ki_X11_32 : CallIN RX11 32 RX11 μX8_init 0 := ⟨mq_mem (n := 5) rfl, w_237, w_102, w_238, ⟨qcl_3.1, qcl_3.2, qde_10⟩, Nat.le_of_ble_eq_true rfl, rfl, rfl⟩
theorem nw_X11_40 : NewOK RX11 40 RX2 TX2 tyX2 3 2 [2, 0, 0] := ⟨tX2, tyX2_ok, w_294, w_295, w_103, rfl, rfl, by decide, by decide +kernel⟩
theorem ki_X11_42 : CallI RX11 42 μX2_init 0 := ⟨w_296, w_297, w_103, w_298, ⟨qcl_7.1, qcl_7.2, qde_10⟩, Nat.le_of_ble_eq_true rfl, rfl, rfl⟩
theorem ob_X2_1 : ObjOK RX2 1 := ⟨w_299, w_123, w_124⟩
theorem nw_X2_9 : NewOK RX2 9 RX8 TX8 tyX8 5 8 [2, 2, 2, 2, 0] := ⟨tX8, tyX8_ok, w_300, w_235, w_102, rfl, rfl, by decide, by decide +kernel⟩
theorem ki_X2_22 : CallIN RX2 22 RX11 μX8_init 0 := ⟨mq_mem (n := 6) rfl, w_237, w_102, w_238, ⟨qcl_3.1, qcl_3.2, qde_10⟩, Nat.le_of_ble_eq_true rfl, rfl, rfl⟩
theorem nw_X11_47 : NewOK RX11 47 RX0 TX0 tyX0 5 0 [2, 2, 0, 0, 0] := ⟨tX0, tyX0_ok, w_314, w_458, w_108, rfl, rfl, by decide, by decide +kernel⟩
theorem nw_X11_53 : NewOK RX11 53 RX3 TX3 tyX3 9 3 [2, 2, 2, 2, 2, 0, 0, 0, 0] := ⟨tX3, tyX3_ok, w_316, w_317, w_104, rfl, rfl, by decide, by decide +kernel⟩
theorem ki_X11_55 : CallIN RX11 55 RX11 μX3_init 0 := ⟨mq_mem (n := 7) rfl, w_319, w_104, w_320, ⟨qcl_4.1, qcl_4.2, qde_10⟩, Nat.le_of_ble_eq_true rfl, rfl, rfl⟩
theorem ob_X3_5 : ObjOK RX3 5 := ⟨w_321, w_123, w_124⟩
theorem nw_X11_90 : NewOK RX11 90 RX9 TX9 tyX9 6 9 [2, 2, 2, 2, 0, 0] := ⟨tX9, tyX9_ok, w_359, w_360, w_105, rfl, rfl, by decide, by decide +kernel⟩
theorem ki_X11_92 : CallIN RX11 92 RX11 μX9_init 0 := ⟨mq_mem (n := 8) rfl, w_362, w_105, w_363, ⟨qcl_9.1, qcl_9.2, qde_10⟩, Nat.le_of_ble_eq_true rfl, rfl, rfl⟩
theorem ob_X9_3 : ObjOK RX9 3 := ⟨w_364, w_123, w_124⟩
theorem nw_X11_93 : NewOK RX11 93 RX6 TX6 tyX6 7 6 [2, 2, 2, 2, 2, 2, 0] := ⟨tX6, tyX6_ok, w_392, w_393, w_106, rfl, rfl, by decide, by decide +kernel⟩
theorem ki_X11_95 : CallI RX11 95 μX6_init 1 := ⟨w_394, w_395, w_106, w_396, ⟨qcl_10.1, qcl_10.2, qde_65⟩, Nat.le_of_ble_eq_true rfl, rfl, rfl⟩
theorem ob_X6_3 : ObjOK RX6 3 := ⟨w_397, w_123, w_124⟩
theorem nw_X6_9 : NewOK RX6 9 RX8 TX8 tyX8 5 8 [2, 2, 2, 2, 0] := ⟨tX8, tyX8_ok, w_398, w_235, w_102, rfl, rfl, by decide, by decide +kernel⟩
theorem ki_X6_11 : CallIN RX6 11 RX11 μX8_init 0 := ⟨mq_mem (n := 9) rfl, w_237, w_102, w_238, ⟨qcl_3.1, qcl_3.2, qde_10⟩, Nat.le_of_ble_eq_true rfl, rfl, rfl⟩
theorem nw_X11_102 : NewOK RX11 102 RX7 TX7 tyX7 6 7 [2, 2, 2, 0, 0, 1] := ⟨tX7, tyX7_ok, w_425, w_426, w_107, rfl, rfl, by decide, by decide +kernel⟩
theorem ki_X11_104 : CallI RX11 104 μX7_init 1 := ⟨w_427, w_428, w_107, w_429, ⟨qcl_8.1, qcl_8.2, qde_65⟩, Nat.le_of_ble_eq_true rfl, rfl, rfl⟩
theorem ob_X7_3 : ObjOK RX7 3 := ⟨w_430, w_123, w_124⟩
theorem nw_X7_9 : NewOK RX7 9 RX8 TX8 tyX8 5 8 [2, 2, 2, 2, 0] := ⟨tX8, tyX8_ok, w_431, w_235, w_102, rfl, rfl, by decide, by decide +kernel⟩
theorem ki_X7_11 : CallIN RX7 11 RX11 μX8_init 0 := ⟨mq_mem (n := 10) rfl, w_237, w_102, w_238, ⟨qcl_3.1, qcl_3.2, qde_10⟩, Nat.le_of_ble_eq_true rfl, rfl, rfl⟩
theorem ki_X11_109 : CallIN RX11 109 RX11 μX0_init 0 := ⟨mq_mem (n := 11) rfl, w_460, w_108, w_461, ⟨qcl_12.1, qcl_12.2, qde_10⟩, Nat.le_of_ble_eq_true rfl, rfl, rfl⟩
theorem ob_X0_3 : ObjOK RX0 3 := ⟨w_462, w_123, w_124⟩
theorem nw_X0_9 : NewOK RX0 9 RX8 TX8 tyX8 5 8 [2, 2, 2, 2, 0] := ⟨tX8, tyX8_ok, w_463, w_235, w_102, rfl, rfl, by decide, by decide +kernel⟩
theorem ki_X0_11 : CallIN RX0 11 RX11 μX8_init 0 := ⟨mq_mem (n := 12) rfl, w_237, w_102, w_238, ⟨qcl_3.1, qcl_3.2, qde_10⟩, Nat.le_of_ble_eq_true rfl, rfl, rfl⟩
theorem nw_L_20 : NewOK RL 20 RX12 TX12 tyX12 57 12 [0, 0, 2, 2, 2, 2, 2, 2, 0, 2, 0, 0, 0, 2, 0, 2, 0, 0, 2, 0, 0, 0, 0, 2, 2, 2, 2, 0, 0, 2, 0, 2, 0, 0, 0, 0, 2, 2, 2, 2, 2, 2, 2, 0, 2, 0, 0, 2, 0, 0, 2, 2, 0, 0, 2, 2, 2] := ⟨tX12, tyX12_ok, w_1255, w_1256, w_109, rfl, rfl, by decide, by decide +kernel⟩
theorem ki_L_22 : CallI RL 22 μX12_init 0 := ⟨w_1257, w_1258, w_109, w_1259, ⟨qcl_13.1, qcl_13.2, qde_10⟩, Nat.le_of_ble_eq_true rfl, rfl, rfl⟩
theorem ob_X12_3 : ObjOK RX12 3 := ⟨w_1260, w_123, w_124⟩
theorem ar_0 : Cond.arrayClass .int ∈ TW := tc1 (mq_mem (n := 90) rfl) (by decide +kernel)
theorem ar_1 : Cond.arrayClass .byte ∈ TW := tc6 (mq_mem (n := 137) rfl) (by decide +kernel)
theorem ar_2 : Cond.arrayClass .char ∈ TW := tc1 (mq_mem (n := 49) rfl) (by decide +kernel)
theorem ar_3 : Cond.arrayClass .boolean ∈ TW := tc1 (mq_mem (n := 91) rfl) (by decide +kernel)
theorem ar_4 : Cond.arrayClass .long ∈ TW := tc2 (mq_mem (n := 55) rfl) (by decide +kernel)
def K_X10 (m : Wm) (b n : Nat) : Wm := uI (uR (zm m n) b 0 (some n)) b 1 (0)
def N_X10 (lay : List Ent) : List Ent := (ps lay (.inr (2, 80)))
set_option maxRecDepth 100000 in
set_option maxHeartbeats 40000000 in
theorem n_X10 {bs d : Nat} {lay : List Ent} {m : Wm} {b n : Nat} (hn : lay.length = n) (hb : lay[b]? = some (.inl (10, [2, 0]))) : CtK bs lay ((ps lay (.inr (2, 80)))) μX10_init (d + 1) 1 80 [.ref (adb bs b)] m (K_X10 m b n) := by
  refine CtK.of (n := n) (by decide +kernel) rfl rfl hn (Nat.le_of_ble_eq_true rfl) ?_
  refine aw_eq (L' := [(0, .ref (adb bs b))]) ?_ rfl rfl rfl
  refine aw_aload_n (j := 0) dX10_init_0 rfl rfl ?_
  refine aw_objInit dX10_init_1 ob_X10_1 (Nat.le_of_ble_eq_true rfl) ?_
  refine aw_aload_n (j := 0) dX10_init_4 rfl rfl ?_
  refine aw_bipush (v := 80) dX10_init_5 (by decide) ?_
  refine aw_newa2 (n := n) (kc := 0) (ks := 0) (N := 80) dX10_init_7 hn ar_2 (by decide) (by decide +kernel) (by decide +kernel) ?_
  refine aw_putFR (x := n) dX10_init_9 f_X10_9 cl_X10 rfl rfl rfl (at_old hb) rfl rfl rfl ?_
  refine aw_aload_n (j := 0) dX10_init_12 rfl rfl ?_
  refine aw_iconst (v := 0) dX10_init_13 (by decide) ?_
  refine aw_putI dX10_init_14 f_X10_13 cl_X10 rfl (at_old hb) rfl (by decide) (by decide) ?_
  exact aw_ret (v := none) rfl (Or.inl ⟨rfl, rfl, dX10_init_17⟩) ⟨rfl, rfl⟩
def K_X5 (m : Wm) (b n : Nat) : Wm := uI (uI (uI (uI (uI (uR (zm (uR (zm (uR (zm (uR (zm m n) b 0 (some n)) (n + 1)) b 1 (some (n + 1))) (n + 2)) b 2 (some (n + 2))) (n + 3)) b 3 (some (n + 3))) b 4 (0)) b 5 (0)) b 6 (0)) b 7 (0)) b 8 (1)
def N_X5 (lay : List Ent) : List Ent := (ps (ps (ps (ps lay (.inr (0, 40))) (.inr (0, 40))) (.inr (0, 40))) (.inr (3, 5)))
set_option maxRecDepth 100000 in
set_option maxHeartbeats 40000000 in
theorem n_X5 {bs d : Nat} {lay : List Ent} {m : Wm} {b n : Nat} (hn : lay.length = n) (hb : lay[b]? = some (.inl (5, [2, 2, 2, 2, 0, 0, 0, 0, 0]))) : CtK bs lay ((ps (ps (ps (ps lay (.inr (0, 40))) (.inr (0, 40))) (.inr (0, 40))) (.inr (3, 5)))) μX5_init (d + 1) 4 125 [.ref (adb bs b)] m (K_X5 m b n) := by
  refine CtK.of (n := n) (by decide +kernel) rfl rfl hn (Nat.le_of_ble_eq_true rfl) ?_
  refine aw_eq (L' := [(0, .ref (adb bs b))]) ?_ rfl rfl rfl
  refine aw_aload_n (j := 0) dX5_init_0 rfl rfl ?_
  refine aw_objInit dX5_init_1 ob_X5_3 (Nat.le_of_ble_eq_true rfl) ?_
  refine aw_aload_n (j := 0) dX5_init_4 rfl rfl ?_
  refine aw_bipush (v := 40) dX5_init_5 (by decide) ?_
  refine aw_newa0 (n := n) (kc := 3) (ks := 85) (N := 40) dX5_init_7 hn ar_0 (by decide) (by decide +kernel) (by decide +kernel) ?_
  refine aw_putFR (x := n) dX5_init_9 f_X5_11 cl_X5 rfl rfl rfl (at_old hb) rfl rfl rfl ?_
  refine aw_aload_n (j := 0) dX5_init_12 rfl rfl ?_
  refine aw_bipush (v := 40) dX5_init_13 (by decide) ?_
  refine aw_newa0 (n := n + 1) (kc := 2) (ks := 45) (N := 40) dX5_init_15 (len_push hn) ar_0 (by decide) (by decide +kernel) (by decide +kernel) ?_
  refine aw_putFR (x := n + 1) dX5_init_17 f_X5_15 cl_X5 rfl rfl rfl (at_old (at_old hb)) rfl rfl rfl ?_
  refine aw_aload_n (j := 0) dX5_init_20 rfl rfl ?_
  refine aw_bipush (v := 40) dX5_init_21 (by decide) ?_
  refine aw_newa0 (n := n + 2) (kc := 1) (ks := 5) (N := 40) dX5_init_23 (len_push (len_push hn)) ar_0 (by decide) (by decide +kernel) (by decide +kernel) ?_
  refine aw_putFR (x := n + 2) dX5_init_25 f_X5_18 cl_X5 rfl rfl rfl (at_old (at_old (at_old hb))) rfl rfl rfl ?_
  refine aw_aload_n (j := 0) dX5_init_28 rfl rfl ?_
  refine aw_iconst (v := 5) dX5_init_29 (by decide) ?_
  refine aw_newa3 (n := n + 3) (kc := 0) (ks := 0) (N := 5) dX5_init_30 (len_push (len_push (len_push hn))) ar_3 (by decide) (by decide +kernel) (by decide +kernel) ?_
  refine aw_putFR (x := n + 3) dX5_init_32 f_X5_21 cl_X5 rfl rfl rfl (at_old (at_old (at_old (at_old hb)))) rfl rfl rfl ?_
  refine aw_aload_n (j := 0) dX5_init_35 rfl rfl ?_
  refine aw_iconst (v := 0) dX5_init_36 (by decide) ?_
  refine aw_putI dX5_init_37 f_X5_25 cl_X5 rfl (at_old (at_old (at_old (at_old hb)))) rfl (by decide) (by decide) ?_
  refine aw_aload_n (j := 0) dX5_init_40 rfl rfl ?_
  refine aw_iconst (v := 0) dX5_init_41 (by decide) ?_
  refine aw_putI dX5_init_42 f_X5_29 cl_X5 rfl (at_old (at_old (at_old (at_old hb)))) rfl (by decide) (by decide) ?_
  refine aw_aload_n (j := 0) dX5_init_45 rfl rfl ?_
  refine aw_iconst (v := 0) dX5_init_46 (by decide) ?_
  refine aw_putI dX5_init_47 f_X5_32 cl_X5 rfl (at_old (at_old (at_old (at_old hb)))) rfl (by decide) (by decide) ?_
  refine aw_aload_n (j := 0) dX5_init_50 rfl rfl ?_
  refine aw_iconst (v := 0) dX5_init_51 (by decide) ?_
  refine aw_putI dX5_init_52 f_X5_35 cl_X5 rfl (at_old (at_old (at_old (at_old hb)))) rfl (by decide) (by decide) ?_
  refine aw_aload_n (j := 0) dX5_init_55 rfl rfl ?_
  refine aw_iconst (v := 1) dX5_init_56 (by decide) ?_
  refine aw_putI dX5_init_57 f_X5_38 cl_X5 rfl (at_old (at_old (at_old (at_old hb)))) rfl (by decide) (by decide) ?_
  exact aw_ret (v := none) rfl (Or.inl ⟨rfl, rfl, dX5_init_60⟩) ⟨rfl, rfl⟩
def K_X8 (m : Wm) (b n : Nat) : Wm := uI (uR (zm (uR (zm (uR (zm (uR (zm m n) b 0 (some n)) (n + 1)) b 1 (some (n + 1))) (n + 2)) b 2 (some (n + 2))) (n + 3)) b 3 (some (n + 3))) b 4 (1)
def N_X8 (lay : List Ent) : List Ent := (ps (ps (ps (ps lay (.inr (0, 32))) (.inr (0, 8))) (.inr (0, 8))) (.inr (0, 8)))
set_option maxRecDepth 100000 in
set_option maxHeartbeats 40000000 in
theorem n_X8 {bs d : Nat} {lay : List Ent} {m : Wm} {b n : Nat} (hn : lay.length = n) (hb : lay[b]? = some (.inl (8, [2, 2, 2, 2, 0]))) : CtK bs lay ((ps (ps (ps (ps lay (.inr (0, 32))) (.inr (0, 8))) (.inr (0, 8))) (.inr (0, 8)))) μX8_init (d + 1) 4 56 [.ref (adb bs b)] m (K_X8 m b n) := by
  refine CtK.of (n := n) (by decide +kernel) rfl rfl hn (Nat.le_of_ble_eq_true rfl) ?_
  refine aw_eq (L' := [(0, .ref (adb bs b))]) ?_ rfl rfl rfl
  refine aw_aload_n (j := 0) dX8_init_0 rfl rfl ?_
  refine aw_objInit dX8_init_1 ob_X8_3 (Nat.le_of_ble_eq_true rfl) ?_
  refine aw_aload_n (j := 0) dX8_init_4 rfl rfl ?_
  refine aw_bipush (v := 32) dX8_init_5 (by decide) ?_
  refine aw_newa0 (n := n) (kc := 3) (ks := 24) (N := 32) dX8_init_7 hn ar_0 (by decide) (by decide +kernel) (by decide +kernel) ?_
  refine aw_putFR (x := n) dX8_init_9 f_X8_9 cl_X8 rfl rfl rfl (at_old hb) rfl rfl rfl ?_
  refine aw_aload_n (j := 0) dX8_init_12 rfl rfl ?_
  refine aw_bipush (v := 8) dX8_init_13 (by decide) ?_
  refine aw_newa0 (n := n + 1) (kc := 2) (ks := 16) (N := 8) dX8_init_15 (len_push hn) ar_0 (by decide) (by decide +kernel) (by decide +kernel) ?_
  refine aw_putFR (x := n + 1) dX8_init_17 f_X8_15 cl_X8 rfl rfl rfl (at_old (at_old hb)) rfl rfl rfl ?_
  refine aw_aload_n (j := 0) dX8_init_20 rfl rfl ?_
  refine aw_bipush (v := 8) dX8_init_21 (by decide) ?_
  refine aw_newa0 (n := n + 2) (kc := 1) (ks := 8) (N := 8) dX8_init_23 (len_push (len_push hn)) ar_0 (by decide) (by decide +kernel) (by decide +kernel) ?_
  refine aw_putFR (x := n + 2) dX8_init_25 f_X8_18 cl_X8 rfl rfl rfl (at_old (at_old (at_old hb))) rfl rfl rfl ?_
  refine aw_aload_n (j := 0) dX8_init_28 rfl rfl ?_
  refine aw_bipush (v := 8) dX8_init_29 (by decide) ?_
  refine aw_newa0 (n := n + 3) (kc := 0) (ks := 0) (N := 8) dX8_init_31 (len_push (len_push (len_push hn))) ar_0 (by decide) (by decide +kernel) (by decide +kernel) ?_
  refine aw_putFR (x := n + 3) dX8_init_33 f_X8_21 cl_X8 rfl rfl rfl (at_old (at_old (at_old (at_old hb)))) rfl rfl rfl ?_
  refine aw_aload_n (j := 0) dX8_init_36 rfl rfl ?_
  refine aw_iconst (v := 1) dX8_init_37 (by decide) ?_
  refine aw_putI dX8_init_38 f_X8_24 cl_X8 rfl (at_old (at_old (at_old (at_old hb)))) rfl (by decide) (by decide) ?_
  exact aw_ret (v := none) rfl (Or.inl ⟨rfl, rfl, dX8_init_41⟩) ⟨rfl, rfl⟩
def K_X3 (m : Wm) (b n : Nat) : Wm := uI (uI (uI (uI (uR (zm (uR (zm (uR (zm (uR (zm (uR (zm m n) b 0 (some n)) (n + 1)) b 1 (some (n + 1))) (n + 2)) b 2 (some (n + 2))) (n + 3)) b 3 (some (n + 3))) (n + 4)) b 4 (some (n + 4))) b 5 (0)) b 6 (0)) b 7 (0)) b 8 (0)
def N_X3 (lay : List Ent) : List Ent := (ps (ps (ps (ps (ps lay (.inr (0, 48))) (.inr (0, 48))) (.inr (0, 48))) (.inr (0, 13))) (.inr (0, 8)))
set_option maxRecDepth 100000 in
set_option maxHeartbeats 40000000 in
theorem n_X3 {bs d : Nat} {lay : List Ent} {m : Wm} {b n : Nat} (hn : lay.length = n) (hb : lay[b]? = some (.inl (3, [2, 2, 2, 2, 2, 0, 0, 0, 0]))) : CtK bs lay ((ps (ps (ps (ps (ps lay (.inr (0, 48))) (.inr (0, 48))) (.inr (0, 48))) (.inr (0, 13))) (.inr (0, 8)))) μX3_init (d + 1) 5 165 [.ref (adb bs b)] m (K_X3 m b n) := by
  refine CtK.of (n := n) (by decide +kernel) rfl rfl hn (Nat.le_of_ble_eq_true rfl) ?_
  refine aw_eq (L' := [(0, .ref (adb bs b))]) ?_ rfl rfl rfl
  refine aw_aload_n (j := 0) dX3_init_0 rfl rfl ?_
  refine aw_objInit dX3_init_1 ob_X3_5 (Nat.le_of_ble_eq_true rfl) ?_
  refine aw_aload_n (j := 0) dX3_init_4 rfl rfl ?_
  refine aw_bipush (v := 48) dX3_init_5 (by decide) ?_
  refine aw_newa0 (n := n) (kc := 4) (ks := 117) (N := 48) dX3_init_7 hn ar_0 (by decide) (by decide +kernel) (by decide +kernel) ?_
  refine aw_putFR (x := n) dX3_init_9 f_X3_11 cl_X3 rfl rfl rfl (at_old hb) rfl rfl rfl ?_
  refine aw_aload_n (j := 0) dX3_init_12 rfl rfl ?_
  refine aw_bipush (v := 48) dX3_init_13 (by decide) ?_
  refine aw_newa0 (n := n + 1) (kc := 3) (ks := 69) (N := 48) dX3_init_15 (len_push hn) ar_0 (by decide) (by decide +kernel) (by decide +kernel) ?_
  refine aw_putFR (x := n + 1) dX3_init_17 f_X3_15 cl_X3 rfl rfl rfl (at_old (at_old hb)) rfl rfl rfl ?_
  refine aw_aload_n (j := 0) dX3_init_20 rfl rfl ?_
  refine aw_bipush (v := 48) dX3_init_21 (by decide) ?_
  refine aw_newa0 (n := n + 2) (kc := 2) (ks := 21) (N := 48) dX3_init_23 (len_push (len_push hn)) ar_0 (by decide) (by decide +kernel) (by decide +kernel) ?_
  refine aw_putFR (x := n + 2) dX3_init_25 f_X3_18 cl_X3 rfl rfl rfl (at_old (at_old (at_old hb))) rfl rfl rfl ?_
  refine aw_aload_n (j := 0) dX3_init_28 rfl rfl ?_
  refine aw_bipush (v := 13) dX3_init_29 (by decide) ?_
  refine aw_newa0 (n := n + 3) (kc := 1) (ks := 8) (N := 13) dX3_init_31 (len_push (len_push (len_push hn))) ar_0 (by decide) (by decide +kernel) (by decide +kernel) ?_
  refine aw_putFR (x := n + 3) dX3_init_33 f_X3_21 cl_X3 rfl rfl rfl (at_old (at_old (at_old (at_old hb)))) rfl rfl rfl ?_
  refine aw_aload_n (j := 0) dX3_init_36 rfl rfl ?_
  refine aw_bipush (v := 8) dX3_init_37 (by decide) ?_
  refine aw_newa0 (n := n + 4) (kc := 0) (ks := 0) (N := 8) dX3_init_39 (len_push (len_push (len_push (len_push hn)))) ar_0 (by decide) (by decide +kernel) (by decide +kernel) ?_
  refine aw_putFR (x := n + 4) dX3_init_41 f_X3_24 cl_X3 rfl rfl rfl (at_old (at_old (at_old (at_old (at_old hb))))) rfl rfl rfl ?_
  refine aw_aload_n (j := 0) dX3_init_44 rfl rfl ?_
  refine aw_iconst (v := 0) dX3_init_45 (by decide) ?_
  refine aw_putI dX3_init_46 f_X3_27 cl_X3 rfl (at_old (at_old (at_old (at_old (at_old hb))))) rfl (by decide) (by decide) ?_
  refine aw_aload_n (j := 0) dX3_init_49 rfl rfl ?_
  refine aw_iconst (v := 0) dX3_init_50 (by decide) ?_
  refine aw_putI dX3_init_51 f_X3_31 cl_X3 rfl (at_old (at_old (at_old (at_old (at_old hb))))) rfl (by decide) (by decide) ?_
  refine aw_aload_n (j := 0) dX3_init_54 rfl rfl ?_
  refine aw_iconst (v := 0) dX3_init_55 (by decide) ?_
  refine aw_putI dX3_init_56 f_X3_34 cl_X3 rfl (at_old (at_old (at_old (at_old (at_old hb))))) rfl (by decide) (by decide) ?_
  refine aw_aload_n (j := 0) dX3_init_59 rfl rfl ?_
  refine aw_iconst (v := 0) dX3_init_60 (by decide) ?_
  refine aw_putI dX3_init_61 f_X3_37 cl_X3 rfl (at_old (at_old (at_old (at_old (at_old hb))))) rfl (by decide) (by decide) ?_
  exact aw_ret (v := none) rfl (Or.inl ⟨rfl, rfl, dX3_init_64⟩) ⟨rfl, rfl⟩
def K_X9 (m : Wm) (b n : Nat) : Wm := uI (uI (uR (zm (uR (zm (uR (zm (uR (zm m n) b 0 (some n)) (n + 1)) b 1 (some (n + 1))) (n + 2)) b 2 (some (n + 2))) (n + 3)) b 3 (some (n + 3))) b 4 (0)) b 5 (0)
def N_X9 (lay : List Ent) : List Ent := (ps (ps (ps (ps lay (.inr (4, 3000))) (.inr (4, 3000))) (.inr (0, 8192))) (.inr (0, 3000)))
set_option maxRecDepth 100000 in
set_option maxHeartbeats 40000000 in
theorem n_X9 {bs d : Nat} {lay : List Ent} {m : Wm} {b n : Nat} (hn : lay.length = n) (hb : lay[b]? = some (.inl (9, [2, 2, 2, 2, 0, 0]))) : CtK bs lay ((ps (ps (ps (ps lay (.inr (4, 3000))) (.inr (4, 3000))) (.inr (0, 8192))) (.inr (0, 3000)))) μX9_init (d + 1) 4 17192 [.ref (adb bs b)] m (K_X9 m b n) := by
  refine CtK.of (n := n) (by decide +kernel) rfl rfl hn (Nat.le_of_ble_eq_true rfl) ?_
  refine aw_eq (L' := [(0, .ref (adb bs b))]) ?_ rfl rfl rfl
  refine aw_aload_n (j := 0) dX9_init_0 rfl rfl ?_
  refine aw_objInit dX9_init_1 ob_X9_3 (Nat.le_of_ble_eq_true rfl) ?_
  refine aw_aload_n (j := 0) dX9_init_4 rfl rfl ?_
  refine aw_sipush (v := 3000) dX9_init_5 (by decide) ?_
  refine aw_newa4 (n := n) (kc := 3) (ks := 14192) (N := 3000) dX9_init_8 hn ar_4 (by decide) (by decide +kernel) (by decide +kernel) ?_
  refine aw_putFR (x := n) dX9_init_10 f_X9_11 cl_X9 rfl rfl rfl (at_old hb) rfl rfl rfl ?_
  refine aw_aload_n (j := 0) dX9_init_13 rfl rfl ?_
  refine aw_sipush (v := 3000) dX9_init_14 (by decide) ?_
  refine aw_newa4 (n := n + 1) (kc := 2) (ks := 11192) (N := 3000) dX9_init_17 (len_push hn) ar_4 (by decide) (by decide +kernel) (by decide +kernel) ?_
  refine aw_putFR (x := n + 1) dX9_init_19 f_X9_15 cl_X9 rfl rfl rfl (at_old (at_old hb)) rfl rfl rfl ?_
  refine aw_aload_n (j := 0) dX9_init_22 rfl rfl ?_
  refine aw_sipush (v := 8192) dX9_init_23 (by decide) ?_
  refine aw_newa0 (n := n + 2) (kc := 1) (ks := 3000) (N := 8192) dX9_init_26 (len_push (len_push hn)) ar_0 (by decide) (by decide +kernel) (by decide +kernel) ?_
  refine aw_putFR (x := n + 2) dX9_init_28 f_X9_18 cl_X9 rfl rfl rfl (at_old (at_old (at_old hb))) rfl rfl rfl ?_
  refine aw_aload_n (j := 0) dX9_init_31 rfl rfl ?_
  refine aw_sipush (v := 3000) dX9_init_32 (by decide) ?_
  refine aw_newa0 (n := n + 3) (kc := 0) (ks := 0) (N := 3000) dX9_init_35 (len_push (len_push (len_push hn))) ar_0 (by decide) (by decide +kernel) (by decide +kernel) ?_
  refine aw_putFR (x := n + 3) dX9_init_37 f_X9_22 cl_X9 rfl rfl rfl (at_old (at_old (at_old (at_old hb)))) rfl rfl rfl ?_
  refine aw_aload_n (j := 0) dX9_init_40 rfl rfl ?_
  refine aw_iconst (v := 0) dX9_init_41 (by decide) ?_
  refine aw_putI dX9_init_42 f_X9_25 cl_X9 rfl (at_old (at_old (at_old (at_old hb)))) rfl (by decide) (by decide) ?_
  refine aw_aload_n (j := 0) dX9_init_45 rfl rfl ?_
  refine aw_iconst (v := 0) dX9_init_46 (by decide) ?_
  refine aw_putI dX9_init_47 f_X9_29 cl_X9 rfl (at_old (at_old (at_old (at_old hb)))) rfl (by decide) (by decide) ?_
  exact aw_ret (v := none) rfl (Or.inl ⟨rfl, rfl, dX9_init_50⟩) ⟨rfl, rfl⟩
def K_X1 (m : Wm) (b n : Nat) : Wm := uI (uI (uI (uI (uI (uR (K_X5 (zm (uR (K_X5 (zm (uR (uI (uI (uI (uI (uI (zm m n) n (0 : Int32).toNatClampNeg (0)) n (1 : Int32).toNatClampNeg (1)) n (2 : Int32).toNatClampNeg (1)) n (3 : Int32).toNatClampNeg (0)) n (4 : Int32).toNatClampNeg (0)) b 0 (some n)) (n + 1)) (n + 1) (n + 2)) b 1 (some (n + 1))) (n + 6)) (n + 6) (n + 7)) b 2 (some (n + 6))) b 3 (0)) b 4 (2)) b 5 (0)) b 6 (-1)) b 7 (0)
def N_X1 (lay : List Ent) : List Ent := (ps (ps (ps (ps (ps (ps (ps (ps (ps (ps (ps lay (.inr (0, 5))) (.inl (5, [2, 2, 2, 2, 0, 0, 0, 0, 0]))) (.inr (0, 40))) (.inr (0, 40))) (.inr (0, 40))) (.inr (3, 5))) (.inl (5, [2, 2, 2, 2, 0, 0, 0, 0, 0]))) (.inr (0, 40))) (.inr (0, 40))) (.inr (0, 40))) (.inr (3, 5)))
set_option maxRecDepth 100000 in
set_option maxHeartbeats 40000000 in
theorem n_X1 {bs d : Nat} {lay : List Ent} {m : Wm} {b n : Nat} (hn : lay.length = n) (hb : lay[b]? = some (.inl (1, [2, 2, 2, 0, 0, 0, 0, 0]))) : CtK bs lay ((ps (ps (ps (ps (ps (ps (ps (ps (ps (ps (ps lay (.inr (0, 5))) (.inl (5, [2, 2, 2, 2, 0, 0, 0, 0, 0]))) (.inr (0, 40))) (.inr (0, 40))) (.inr (0, 40))) (.inr (3, 5))) (.inl (5, [2, 2, 2, 2, 0, 0, 0, 0, 0]))) (.inr (0, 40))) (.inr (0, 40))) (.inr (0, 40))) (.inr (3, 5)))) μX1_init (d + 2) 11 273 [.ref (adb bs b)] m (K_X1 m b n) := by
  refine CtK.of (n := n) (by decide +kernel) rfl rfl hn (Nat.le_of_ble_eq_true rfl) ?_
  refine aw_eq (L' := [(0, .ref (adb bs b))]) ?_ rfl rfl rfl
  refine aw_aload_n (j := 0) dX1_init_0 rfl rfl ?_
  refine aw_objInit dX1_init_1 ob_X1_3 (Nat.le_of_ble_eq_true rfl) ?_
  refine aw_aload_n (j := 0) dX1_init_4 rfl rfl ?_
  refine aw_iconst (v := 5) dX1_init_5 (by decide) ?_
  refine aw_newa0 (n := n) (kc := 10) (ks := 268) (N := 5) dX1_init_6 hn ar_0 (by decide) (by decide +kernel) (by decide +kernel) ?_
  refine aw_dup dX1_init_8 rfl ?_
  refine aw_iconst (v := 0) dX1_init_9 (by decide) ?_
  refine aw_iconst (v := 0) dX1_init_10 (by decide) ?_
  refine aw_iastore dX1_init_11 (at_new hn) (by unfold vp_in; decide) ?_
  refine aw_dup dX1_init_12 rfl ?_
  refine aw_iconst (v := 1) dX1_init_13 (by decide) ?_
  refine aw_iconst (v := 1) dX1_init_14 (by decide) ?_
  refine aw_iastore dX1_init_15 (at_new hn) (by unfold vp_in; decide) ?_
  refine aw_dup dX1_init_16 rfl ?_
  refine aw_iconst (v := 2) dX1_init_17 (by decide) ?_
  refine aw_iconst (v := 1) dX1_init_18 (by decide) ?_
  refine aw_iastore dX1_init_19 (at_new hn) (by unfold vp_in; decide) ?_
  refine aw_dup dX1_init_20 rfl ?_
  refine aw_iconst (v := 3) dX1_init_21 (by decide) ?_
  refine aw_iconst (v := 0) dX1_init_22 (by decide) ?_
  refine aw_iastore dX1_init_23 (at_new hn) (by unfold vp_in; decide) ?_
  refine aw_dup dX1_init_24 rfl ?_
  refine aw_iconst (v := 4) dX1_init_25 (by decide) ?_
  refine aw_iconst (v := 0) dX1_init_26 (by decide) ?_
  refine aw_iastore dX1_init_27 (at_new hn) (by unfold vp_in; decide) ?_
  refine aw_putFR (x := n) dX1_init_28 f_X1_9 cl_X1 rfl rfl rfl (at_old hb) rfl rfl rfl ?_
  refine aw_aload_n (j := 0) dX1_init_31 rfl rfl ?_
  refine aw_new (n := n + 1) (kc := 9) (ks := 259) (N := 9) dX1_init_32 (len_push hn) nw_X1_15 ?_
  refine aw_dup dX1_init_35 rfl ?_
  refine aw_callIN (n := n + 2) (kc := 5) (ks := 134) (kc' := 4) (ks' := 125) (rest := [.ref (adb bs (n + 1)), .ref (adb bs b)]) [] dX1_init_36 (len_push (len_push hn)) (by omega) (len_push (len_push (len_push (len_push (len_push (len_push hn)))))) ki_X1_17 rfl (n_X5 (hn := (len_push (len_push hn))) (hb := (at_new (len_push hn)))) (Nat.le_of_ble_eq_true rfl) ?_
  refine aw_putR (x := n + 1) dX1_init_39 f_X1_18 cl_X1 rfl (at_old (at_old (at_old (at_old (at_old (at_old hb)))))) rfl rfl rfl ?_
  refine aw_aload_n (j := 0) dX1_init_42 rfl rfl ?_
  refine aw_new (n := n + 6) (kc := 4) (ks := 125) (N := 9) dX1_init_43 (len_push (len_push (len_push (len_push (len_push (len_push hn)))))) nw_X1_15 ?_
  refine aw_dup dX1_init_46 rfl ?_
  refine aw_callIN (n := n + 7) (kc := 0) (ks := 0) (kc' := 4) (ks' := 125) (rest := [.ref (adb bs (n + 6)), .ref (adb bs b)]) [] dX1_init_47 (len_push (len_push (len_push (len_push (len_push (len_push (len_push hn))))))) (by omega) (len_push (len_push (len_push (len_push (len_push (len_push (len_push (len_push (len_push (len_push (len_push hn))))))))))) ki_X1_17 rfl (n_X5 (hn := (len_push (len_push (len_push (len_push (len_push (len_push (len_push hn)))))))) (hb := (at_new (len_push (len_push (len_push (len_push (len_push (len_push hn))))))))) (Nat.le_of_ble_eq_true rfl) ?_
  refine aw_putR (x := n + 6) dX1_init_50 f_X1_22 cl_X1 rfl (at_old (at_old (at_old (at_old (at_old (at_old (at_old (at_old (at_old (at_old (at_old hb))))))))))) rfl rfl rfl ?_
  refine aw_aload_n (j := 0) dX1_init_53 rfl rfl ?_
  refine aw_iconst (v := 0) dX1_init_54 (by decide) ?_
  refine aw_putI dX1_init_55 f_X1_25 cl_X1 rfl (at_old (at_old (at_old (at_old (at_old (at_old (at_old (at_old (at_old (at_old (at_old hb))))))))))) rfl (by decide) (by decide) ?_
  refine aw_aload_n (j := 0) dX1_init_58 rfl rfl ?_
  refine aw_iconst (v := 2) dX1_init_59 (by decide) ?_
  refine aw_putI dX1_init_60 f_X1_29 cl_X1 rfl (at_old (at_old (at_old (at_old (at_old (at_old (at_old (at_old (at_old (at_old (at_old hb))))))))))) rfl (by decide) (by decide) ?_
  refine aw_aload_n (j := 0) dX1_init_63 rfl rfl ?_
  refine aw_iconst (v := 0) dX1_init_64 (by decide) ?_
  refine aw_putI dX1_init_65 f_X1_32 cl_X1 rfl (at_old (at_old (at_old (at_old (at_old (at_old (at_old (at_old (at_old (at_old (at_old hb))))))))))) rfl (by decide) (by decide) ?_
  refine aw_aload_n (j := 0) dX1_init_68 rfl rfl ?_
  refine aw_iconst (v := -1) dX1_init_69 (by decide) ?_
  refine aw_putI dX1_init_70 f_X1_35 cl_X1 rfl (at_old (at_old (at_old (at_old (at_old (at_old (at_old (at_old (at_old (at_old (at_old hb))))))))))) rfl (by decide) (by decide) ?_
  refine aw_aload_n (j := 0) dX1_init_73 rfl rfl ?_
  refine aw_iconst (v := 0) dX1_init_74 (by decide) ?_
  refine aw_putI dX1_init_75 f_X1_38 cl_X1 rfl (at_old (at_old (at_old (at_old (at_old (at_old (at_old (at_old (at_old (at_old (at_old hb))))))))))) rfl (by decide) (by decide) ?_
  exact aw_ret (v := none) rfl (Or.inl ⟨rfl, rfl, dX1_init_78⟩) ⟨rfl, rfl⟩
def K_X4 (m : Wm) (b n : Nat) : Wm := uI (uI (uI (uI (uI (uI (uI (uR (K_X8 (zm m n) n (n + 1)) b 0 (some n)) b 1 (0)) b 2 (0)) b 3 (0)) b 4 (0)) b 5 (0)) b 6 (0)) b 7 (0)
def N_X4 (lay : List Ent) : List Ent := (ps (ps (ps (ps (ps lay (.inl (8, [2, 2, 2, 2, 0]))) (.inr (0, 32))) (.inr (0, 8))) (.inr (0, 8))) (.inr (0, 8)))
set_option maxRecDepth 100000 in
set_option maxHeartbeats 40000000 in
theorem n_X4 {bs d : Nat} {lay : List Ent} {m : Wm} {b n : Nat} (hn : lay.length = n) (hb : lay[b]? = some (.inl (4, [2, 0, 0, 0, 0, 0, 0, 0]))) : CtK bs lay ((ps (ps (ps (ps (ps lay (.inl (8, [2, 2, 2, 2, 0]))) (.inr (0, 32))) (.inr (0, 8))) (.inr (0, 8))) (.inr (0, 8)))) μX4_init (d + 2) 5 61 [.ref (adb bs b)] m (K_X4 m b n) := by
  refine CtK.of (n := n) (by decide +kernel) rfl rfl hn (Nat.le_of_ble_eq_true rfl) ?_
  refine aw_eq (L' := [(0, .ref (adb bs b))]) ?_ rfl rfl rfl
  refine aw_aload_n (j := 0) dX4_init_0 rfl rfl ?_
  refine aw_objInit dX4_init_1 ob_X4_3 (Nat.le_of_ble_eq_true rfl) ?_
  refine aw_aload_n (j := 0) dX4_init_4 rfl rfl ?_
  refine aw_new (n := n) (kc := 4) (ks := 56) (N := 5) dX4_init_5 hn nw_X4_9 ?_
  refine aw_dup dX4_init_8 rfl ?_
  refine aw_callIN (n := n + 1) (kc := 0) (ks := 0) (kc' := 4) (ks' := 56) (rest := [.ref (adb bs n), .ref (adb bs b)]) [] dX4_init_9 (len_push hn) (by omega) (len_push (len_push (len_push (len_push (len_push hn))))) ki_X4_11 rfl (n_X8 (hn := (len_push hn)) (hb := (at_new hn))) (Nat.le_of_ble_eq_true rfl) ?_
  refine aw_putFR (x := n) dX4_init_12 f_X4_12 cl_X4 rfl rfl rfl (at_old (at_old (at_old (at_old (at_old hb))))) rfl rfl rfl ?_
  refine aw_aload_n (j := 0) dX4_init_15 rfl rfl ?_
  refine aw_iconst (v := 0) dX4_init_16 (by decide) ?_
  refine aw_putI dX4_init_17 f_X4_18 cl_X4 rfl (at_old (at_old (at_old (at_old (at_old hb))))) rfl (by decide) (by decide) ?_
  refine aw_aload_n (j := 0) dX4_init_20 rfl rfl ?_
  refine aw_iconst (v := 0) dX4_init_21 (by decide) ?_
  refine aw_putI dX4_init_22 f_X4_22 cl_X4 rfl (at_old (at_old (at_old (at_old (at_old hb))))) rfl (by decide) (by decide) ?_
  refine aw_aload_n (j := 0) dX4_init_25 rfl rfl ?_
  refine aw_iconst (v := 0) dX4_init_26 (by decide) ?_
  refine aw_putI dX4_init_27 f_X4_25 cl_X4 rfl (at_old (at_old (at_old (at_old (at_old hb))))) rfl (by decide) (by decide) ?_
  refine aw_aload_n (j := 0) dX4_init_30 rfl rfl ?_
  refine aw_iconst (v := 0) dX4_init_31 (by decide) ?_
  refine aw_putI dX4_init_32 f_X4_28 cl_X4 rfl (at_old (at_old (at_old (at_old (at_old hb))))) rfl (by decide) (by decide) ?_
  refine aw_aload_n (j := 0) dX4_init_35 rfl rfl ?_
  refine aw_iconst (v := 0) dX4_init_36 (by decide) ?_
  refine aw_putI dX4_init_37 f_X4_31 cl_X4 rfl (at_old (at_old (at_old (at_old (at_old hb))))) rfl (by decide) (by decide) ?_
  refine aw_aload_n (j := 0) dX4_init_40 rfl rfl ?_
  refine aw_iconst (v := 0) dX4_init_41 (by decide) ?_
  refine aw_putI dX4_init_42 f_X4_34 cl_X4 rfl (at_old (at_old (at_old (at_old (at_old hb))))) rfl (by decide) (by decide) ?_
  refine aw_aload_n (j := 0) dX4_init_45 rfl rfl ?_
  refine aw_iconst (v := 0) dX4_init_46 (by decide) ?_
  refine aw_putI dX4_init_47 f_X4_37 cl_X4 rfl (at_old (at_old (at_old (at_old (at_old hb))))) rfl (by decide) (by decide) ?_
  exact aw_ret (v := none) rfl (Or.inl ⟨rfl, rfl, dX4_init_50⟩) ⟨rfl, rfl⟩
def K_X0 (m : Wm) (b n : Nat) : Wm := uI (uI (uI (uR (zm (uR (K_X8 (zm m n) n (n + 1)) b 0 (some n)) (n + 5)) b 1 (some (n + 5))) b 2 (0)) b 3 (0)) b 4 (0)
def N_X0 (lay : List Ent) : List Ent := (ps (ps (ps (ps (ps (ps lay (.inl (8, [2, 2, 2, 2, 0]))) (.inr (0, 32))) (.inr (0, 8))) (.inr (0, 8))) (.inr (0, 8))) (.inr (0, 5)))
set_option maxRecDepth 100000 in
set_option maxHeartbeats 40000000 in
theorem n_X0 {bs d : Nat} {lay : List Ent} {m : Wm} {b n : Nat} (hn : lay.length = n) (hb : lay[b]? = some (.inl (0, [2, 2, 0, 0, 0]))) : CtK bs lay ((ps (ps (ps (ps (ps (ps lay (.inl (8, [2, 2, 2, 2, 0]))) (.inr (0, 32))) (.inr (0, 8))) (.inr (0, 8))) (.inr (0, 8))) (.inr (0, 5)))) μX0_init (d + 2) 6 66 [.ref (adb bs b)] m (K_X0 m b n) := by
  refine CtK.of (n := n) (by decide +kernel) rfl rfl hn (Nat.le_of_ble_eq_true rfl) ?_
  refine aw_eq (L' := [(0, .ref (adb bs b))]) ?_ rfl rfl rfl
  refine aw_aload_n (j := 0) dX0_init_0 rfl rfl ?_
  refine aw_objInit dX0_init_1 ob_X0_3 (Nat.le_of_ble_eq_true rfl) ?_
  refine aw_aload_n (j := 0) dX0_init_4 rfl rfl ?_
  refine aw_new (n := n) (kc := 5) (ks := 61) (N := 5) dX0_init_5 hn nw_X0_9 ?_
  refine aw_dup dX0_init_8 rfl ?_
  refine aw_callIN (n := n + 1) (kc := 1) (ks := 5) (kc' := 4) (ks' := 56) (rest := [.ref (adb bs n), .ref (adb bs b)]) [] dX0_init_9 (len_push hn) (by omega) (len_push (len_push (len_push (len_push (len_push hn))))) ki_X0_11 rfl (n_X8 (hn := (len_push hn)) (hb := (at_new hn))) (Nat.le_of_ble_eq_true rfl) ?_
  refine aw_putFR (x := n) dX0_init_12 f_X0_12 cl_X0 rfl rfl rfl (at_old (at_old (at_old (at_old (at_old hb))))) rfl rfl rfl ?_
  refine aw_aload_n (j := 0) dX0_init_15 rfl rfl ?_
  refine aw_iconst (v := 5) dX0_init_16 (by decide) ?_
  refine aw_newa0 (n := n + 5) (kc := 0) (ks := 0) (N := 5) dX0_init_17 (len_push (len_push (len_push (len_push (len_push hn))))) ar_0 (by decide) (by decide +kernel) (by decide +kernel) ?_
  refine aw_putFR (x := n + 5) dX0_init_19 f_X0_18 cl_X0 rfl rfl rfl (at_old (at_old (at_old (at_old (at_old (at_old hb)))))) rfl rfl rfl ?_
  refine aw_aload_n (j := 0) dX0_init_22 rfl rfl ?_
  refine aw_iconst (v := 0) dX0_init_23 (by decide) ?_
  refine aw_putI dX0_init_24 f_X0_22 cl_X0 rfl (at_old (at_old (at_old (at_old (at_old (at_old hb)))))) rfl (by decide) (by decide) ?_
  refine aw_aload_n (j := 0) dX0_init_27 rfl rfl ?_
  refine aw_iconst (v := 0) dX0_init_28 (by decide) ?_
  refine aw_putI dX0_init_29 f_X0_26 cl_X0 rfl (at_old (at_old (at_old (at_old (at_old (at_old hb)))))) rfl (by decide) (by decide) ?_
  refine aw_aload_n (j := 0) dX0_init_32 rfl rfl ?_
  refine aw_iconst (v := 0) dX0_init_33 (by decide) ?_
  refine aw_putI dX0_init_34 f_X0_29 cl_X0 rfl (at_old (at_old (at_old (at_old (at_old (at_old hb)))))) rfl (by decide) (by decide) ?_
  exact aw_ret (v := none) rfl (Or.inl ⟨rfl, rfl, dX0_init_37⟩) ⟨rfl, rfl⟩
def K_X6 (m : Wm) (b n : Nat) (a1 : Nat) : Wm := uR (uI (uR (zm (uR (zm (uR (zm (uR (zm (uR (K_X8 (zm m n) n (n + 1)) b 1 (some n)) (n + 5)) b 2 (some (n + 5))) (n + 6)) b 3 (some (n + 6))) (n + 7)) b 4 (some (n + 7))) (n + 8)) b 5 (some (n + 8))) b 6 (0)) b 0 (some a1)
def N_X6 (lay : List Ent) : List Ent := (ps (ps (ps (ps (ps (ps (ps (ps (ps lay (.inl (8, [2, 2, 2, 2, 0]))) (.inr (0, 32))) (.inr (0, 8))) (.inr (0, 8))) (.inr (0, 8))) (.inr (0, 8))) (.inr (0, 3000))) (.inr (0, 3000))) (.inr (0, 3000)))
set_option maxRecDepth 100000 in
set_option maxHeartbeats 40000000 in
theorem n_X6 {bs d : Nat} {lay : List Ent} {m : Wm} {b n : Nat} {a1 : Nat} (hn : lay.length = n) (hb : lay[b]? = some (.inl (6, [2, 2, 2, 2, 2, 2, 0]))) (ha1 : lay[a1]? = some (.inl (9, [2, 2, 2, 2, 0, 0]))) : CtK bs lay ((ps (ps (ps (ps (ps (ps (ps (ps (ps lay (.inl (8, [2, 2, 2, 2, 0]))) (.inr (0, 32))) (.inr (0, 8))) (.inr (0, 8))) (.inr (0, 8))) (.inr (0, 8))) (.inr (0, 3000))) (.inr (0, 3000))) (.inr (0, 3000)))) μX6_init (d + 2) 9 9069 [.ref (adb bs b), .ref (adb bs a1)] m (K_X6 m b n a1) := by
  refine CtK.of (n := n) (by decide +kernel) rfl rfl hn (Nat.le_of_ble_eq_true rfl) ?_
  refine aw_eq (L' := [(0, .ref (adb bs b)), (1, .ref (adb bs a1))]) ?_ rfl rfl rfl
  refine aw_aload_n (j := 0) dX6_init_0 rfl rfl ?_
  refine aw_objInit dX6_init_1 ob_X6_3 (Nat.le_of_ble_eq_true rfl) ?_
  refine aw_aload_n (j := 0) dX6_init_4 rfl rfl ?_
  refine aw_new (n := n) (kc := 8) (ks := 9064) (N := 5) dX6_init_5 hn nw_X6_9 ?_
  refine aw_dup dX6_init_8 rfl ?_
  refine aw_callIN (n := n + 1) (kc := 4) (ks := 9008) (kc' := 4) (ks' := 56) (rest := [.ref (adb bs n), .ref (adb bs b)]) [] dX6_init_9 (len_push hn) (by omega) (len_push (len_push (len_push (len_push (len_push hn))))) ki_X6_11 rfl (n_X8 (hn := (len_push hn)) (hb := (at_new hn))) (Nat.le_of_ble_eq_true rfl) ?_
  refine aw_putFR (x := n) dX6_init_12 f_X6_12 cl_X6 rfl rfl rfl (at_old (at_old (at_old (at_old (at_old hb))))) rfl rfl rfl ?_
  refine aw_aload_n (j := 0) dX6_init_15 rfl rfl ?_
  refine aw_bipush (v := 8) dX6_init_16 (by decide) ?_
  refine aw_newa0 (n := n + 5) (kc := 3) (ks := 9000) (N := 8) dX6_init_18 (len_push (len_push (len_push (len_push (len_push hn))))) ar_0 (by decide) (by decide +kernel) (by decide +kernel) ?_
  refine aw_putFR (x := n + 5) dX6_init_20 f_X6_18 cl_X6 rfl rfl rfl (at_old (at_old (at_old (at_old (at_old (at_old hb)))))) rfl rfl rfl ?_
  refine aw_aload_n (j := 0) dX6_init_23 rfl rfl ?_
  refine aw_sipush (v := 3000) dX6_init_24 (by decide) ?_
  refine aw_newa0 (n := n + 6) (kc := 2) (ks := 6000) (N := 3000) dX6_init_27 (len_push (len_push (len_push (len_push (len_push (len_push hn)))))) ar_0 (by decide) (by decide +kernel) (by decide +kernel) ?_
  refine aw_putFR (x := n + 6) dX6_init_29 f_X6_24 cl_X6 rfl rfl rfl (at_old (at_old (at_old (at_old (at_old (at_old (at_old hb))))))) rfl rfl rfl ?_
  refine aw_aload_n (j := 0) dX6_init_32 rfl rfl ?_
  refine aw_sipush (v := 3000) dX6_init_33 (by decide) ?_
  refine aw_newa0 (n := n + 7) (kc := 1) (ks := 3000) (N := 3000) dX6_init_36 (len_push (len_push (len_push (len_push (len_push (len_push (len_push hn))))))) ar_0 (by decide) (by decide +kernel) (by decide +kernel) ?_
  refine aw_putFR (x := n + 7) dX6_init_38 f_X6_27 cl_X6 rfl rfl rfl (at_old (at_old (at_old (at_old (at_old (at_old (at_old (at_old hb)))))))) rfl rfl rfl ?_
  refine aw_aload_n (j := 0) dX6_init_41 rfl rfl ?_
  refine aw_sipush (v := 3000) dX6_init_42 (by decide) ?_
  refine aw_newa0 (n := n + 8) (kc := 0) (ks := 0) (N := 3000) dX6_init_45 (len_push (len_push (len_push (len_push (len_push (len_push (len_push (len_push hn)))))))) ar_0 (by decide) (by decide +kernel) (by decide +kernel) ?_
  refine aw_putFR (x := n + 8) dX6_init_47 f_X6_30 cl_X6 rfl rfl rfl (at_old (at_old (at_old (at_old (at_old (at_old (at_old (at_old (at_old hb))))))))) rfl rfl rfl ?_
  refine aw_aload_n (j := 0) dX6_init_50 rfl rfl ?_
  refine aw_iconst (v := 0) dX6_init_51 (by decide) ?_
  refine aw_putI dX6_init_52 f_X6_33 cl_X6 rfl (at_old (at_old (at_old (at_old (at_old (at_old (at_old (at_old (at_old hb))))))))) rfl (by decide) (by decide) ?_
  refine aw_aload_n (j := 0) dX6_init_55 rfl rfl ?_
  refine aw_aload_n (j := 1) dX6_init_56 rfl rfl ?_
  refine aw_putFR (x := a1) dX6_init_57 f_X6_37 cl_X6 rfl rfl rfl (at_old (at_old (at_old (at_old (at_old (at_old (at_old (at_old (at_old hb))))))))) rfl rfl rfl ?_
  exact aw_ret (v := none) rfl (Or.inl ⟨rfl, rfl, dX6_init_60⟩) ⟨rfl, rfl⟩
def K_X7 (m : Wm) (b n : Nat) (a1 : Nat) : Wm := uR (uL (uI (uI (uR (zm (uR (K_X8 (zm m n) n (n + 1)) b 1 (some n)) (n + 5)) b 2 (some (n + 5))) b 3 (0)) b 4 (0)) b 5 (0)) b 0 (some a1)
def N_X7 (lay : List Ent) : List Ent := (ps (ps (ps (ps (ps (ps lay (.inl (8, [2, 2, 2, 2, 0]))) (.inr (0, 32))) (.inr (0, 8))) (.inr (0, 8))) (.inr (0, 8))) (.inr (0, 8)))
set_option maxRecDepth 100000 in
set_option maxHeartbeats 40000000 in
theorem n_X7 {bs d : Nat} {lay : List Ent} {m : Wm} {b n : Nat} {a1 : Nat} (hn : lay.length = n) (hb : lay[b]? = some (.inl (7, [2, 2, 2, 0, 0, 1]))) (ha1 : lay[a1]? = some (.inl (9, [2, 2, 2, 2, 0, 0]))) : CtK bs lay ((ps (ps (ps (ps (ps (ps lay (.inl (8, [2, 2, 2, 2, 0]))) (.inr (0, 32))) (.inr (0, 8))) (.inr (0, 8))) (.inr (0, 8))) (.inr (0, 8)))) μX7_init (d + 2) 6 69 [.ref (adb bs b), .ref (adb bs a1)] m (K_X7 m b n a1) := by
  refine CtK.of (n := n) (by decide +kernel) rfl rfl hn (Nat.le_of_ble_eq_true rfl) ?_
  refine aw_eq (L' := [(0, .ref (adb bs b)), (1, .ref (adb bs a1))]) ?_ rfl rfl rfl
  refine aw_aload_n (j := 0) dX7_init_0 rfl rfl ?_
  refine aw_objInit dX7_init_1 ob_X7_3 (Nat.le_of_ble_eq_true rfl) ?_
  refine aw_aload_n (j := 0) dX7_init_4 rfl rfl ?_
  refine aw_new (n := n) (kc := 5) (ks := 64) (N := 5) dX7_init_5 hn nw_X7_9 ?_
  refine aw_dup dX7_init_8 rfl ?_
  refine aw_callIN (n := n + 1) (kc := 1) (ks := 8) (kc' := 4) (ks' := 56) (rest := [.ref (adb bs n), .ref (adb bs b)]) [] dX7_init_9 (len_push hn) (by omega) (len_push (len_push (len_push (len_push (len_push hn))))) ki_X7_11 rfl (n_X8 (hn := (len_push hn)) (hb := (at_new hn))) (Nat.le_of_ble_eq_true rfl) ?_
  refine aw_putFR (x := n) dX7_init_12 f_X7_12 cl_X7 rfl rfl rfl (at_old (at_old (at_old (at_old (at_old hb))))) rfl rfl rfl ?_
  refine aw_aload_n (j := 0) dX7_init_15 rfl rfl ?_
  refine aw_bipush (v := 8) dX7_init_16 (by decide) ?_
  refine aw_newa0 (n := n + 5) (kc := 0) (ks := 0) (N := 8) dX7_init_18 (len_push (len_push (len_push (len_push (len_push hn))))) ar_0 (by decide) (by decide +kernel) (by decide +kernel) ?_
  refine aw_putFR (x := n + 5) dX7_init_20 f_X7_18 cl_X7 rfl rfl rfl (at_old (at_old (at_old (at_old (at_old (at_old hb)))))) rfl rfl rfl ?_
  refine aw_aload_n (j := 0) dX7_init_23 rfl rfl ?_
  refine aw_iconst (v := 0) dX7_init_24 (by decide) ?_
  refine aw_putI dX7_init_25 f_X7_22 cl_X7 rfl (at_old (at_old (at_old (at_old (at_old (at_old hb)))))) rfl (by decide) (by decide) ?_
  refine aw_aload_n (j := 0) dX7_init_28 rfl rfl ?_
  refine aw_iconst (v := 0) dX7_init_29 (by decide) ?_
  refine aw_putI dX7_init_30 f_X7_26 cl_X7 rfl (at_old (at_old (at_old (at_old (at_old (at_old hb)))))) rfl (by decide) (by decide) ?_
  refine aw_aload_n (j := 0) dX7_init_33 rfl rfl ?_
  refine aw_lconst (v := 0) dX7_init_34 (by decide) ?_
  refine aw_putL dX7_init_35 f_X7_29 cl_X7 rfl (at_old (at_old (at_old (at_old (at_old (at_old hb)))))) rfl (by decide) (by decide) ?_
  refine aw_aload_n (j := 0) dX7_init_38 rfl rfl ?_
  refine aw_aload_n (j := 1) dX7_init_39 rfl rfl ?_
  refine aw_putFR (x := a1) dX7_init_40 f_X7_33 cl_X7 rfl rfl rfl (at_old (at_old (at_old (at_old (at_old (at_old hb)))))) rfl rfl rfl ?_
  exact aw_ret (v := none) rfl (Or.inl ⟨rfl, rfl, dX7_init_43⟩) ⟨rfl, rfl⟩
end
section
def K_X12 (m : Wm) (b n : Nat) : Wm := uR (zm (uR (zm (uR (zm (uR (zm (uR (zm (uR (zm (uR (zm (uR (zm (uR (zm (uR (zm (uR (zm (uR (zm (uR (zm (uR (zm (uR (zm (uR (zm (uI (uR (zm (uR (zm (uR (zm (uR (zm (uR (zm (uR (zm (uR (zm (uI (uR (uI (uI (uI (uI (uI (zm (uR (zm (uR (zm (uR (zm (uR (zm (uR (zm (uI m b 0 (2)) n) b 2 (some n)) (n + 1)) b 3 (some (n + 1))) (n + 2)) b 4 (some (n + 2))) (n + 3)) b 5 (some (n + 3))) (n + 4)) b 6 (some (n + 4))) (n + 5)) (n + 5) (0 : Int32).toNatClampNeg (0)) (n + 5) (1 : Int32).toNatClampNeg (1)) (n + 5) (2 : Int32).toNatClampNeg (1)) (n + 5) (3 : Int32).toNatClampNeg (0)) (n + 5) (4 : Int32).toNatClampNeg (0)) b 7 (some (n + 5))) b 8 (1)) (n + 6)) b 9 (some (n + 6))) (n + 7)) b 13 (some (n + 7))) (n + 8)) b 15 (some (n + 8))) (n + 9)) b 23 (some (n + 9))) (n + 10)) b 24 (some (n + 10))) (n + 11)) b 25 (some (n + 11))) (n + 12)) b 26 (some (n + 12))) b 28 (-1)) (n + 13)) b 29 (some (n + 13))) (n + 14)) b 31 (some (n + 14))) (n + 15)) b 36 (some (n + 15))) (n + 16)) b 37 (some (n + 16))) (n + 17)) b 38 (some (n + 17))) (n + 18)) b 39 (some (n + 18))) (n + 19)) b 40 (some (n + 19))) (n + 20)) b 41 (some (n + 20))) (n + 21)) b 42 (some (n + 21))) (n + 22)) b 44 (some (n + 22))) (n + 23)) b 47 (some (n + 23))) (n + 24)) b 50 (some (n + 24))) (n + 25)) b 51 (some (n + 25))) (n + 26)) b 54 (some (n + 26))) (n + 27)) b 55 (some (n + 27))) (n + 28)) b 56 (some (n + 28))
def N_X12 (lay : List Ent) : List Ent := (ps (ps (ps (ps (ps (ps (ps (ps (ps (ps (ps (ps (ps (ps (ps (ps (ps (ps (ps (ps (ps (ps (ps (ps (ps (ps (ps (ps (ps lay (.inr (0, 32))) (.inr (3, 8))) (.inr (0, 8))) (.inr (0, 8))) (.inr (0, 8))) (.inr (0, 5))) (.inr (0, 160))) (.inr (1, 80))) (.inr (4, 16))) (.inr (0, 32))) (.inr (3, 8))) (.inr (0, 160))) (.inr (1, 40))) (.inr (0, 1140))) (.inr (0, 57))) (.inr (0, 9))) (.inr (0, 57))) (.inr (4, 3000))) (.inr (4, 3000))) (.inr (0, 3000))) (.inr (0, 3000))) (.inr (0, 3000))) (.inr (0, 8192))) (.inr (0, 399))) (.inr (0, 3000))) (.inr (0, 36))) (.inr (0, 142))) (.inr (3, 2))) (.inr (0, 2)))
set_option maxRecDepth 100000 in
set_option maxHeartbeats 40000000 in
theorem n_X12 {bs d : Nat} {lay : List Ent} {m : Wm} {b n : Nat} (hn : lay.length = n) (hb : lay[b]? = some (.inl (12, [0, 0, 2, 2, 2, 2, 2, 2, 0, 2, 0, 0, 0, 2, 0, 2, 0, 0, 2, 0, 0, 0, 0, 2, 2, 2, 2, 0, 0, 2, 0, 2, 0, 0, 0, 0, 2, 2, 2, 2, 2, 2, 2, 0, 2, 0, 0, 2, 0, 0, 2, 2, 0, 0, 2, 2, 2]))) : CtK bs lay ((ps (ps (ps (ps (ps (ps (ps (ps (ps (ps (ps (ps (ps (ps (ps (ps (ps (ps (ps (ps (ps (ps (ps (ps (ps (ps (ps (ps (ps lay (.inr (0, 32))) (.inr (3, 8))) (.inr (0, 8))) (.inr (0, 8))) (.inr (0, 8))) (.inr (0, 5))) (.inr (0, 160))) (.inr (1, 80))) (.inr (4, 16))) (.inr (0, 32))) (.inr (3, 8))) (.inr (0, 160))) (.inr (1, 40))) (.inr (0, 1140))) (.inr (0, 57))) (.inr (0, 9))) (.inr (0, 57))) (.inr (4, 3000))) (.inr (4, 3000))) (.inr (0, 3000))) (.inr (0, 3000))) (.inr (0, 3000))) (.inr (0, 8192))) (.inr (0, 399))) (.inr (0, 3000))) (.inr (0, 36))) (.inr (0, 142))) (.inr (3, 2))) (.inr (0, 2)))) μX12_init (d + 1) 29 28601 [.ref (adb bs b)] m (K_X12 m b n) := by
  refine CtK.of (n := n) (by decide +kernel) rfl rfl hn (Nat.le_of_ble_eq_true rfl) ?_
  refine aw_eq (L' := [(0, .ref (adb bs b))]) ?_ rfl rfl rfl
  refine aw_aload_n (j := 0) dX12_init_0 rfl rfl ?_
  refine aw_objInit dX12_init_1 ob_X12_3 (Nat.le_of_ble_eq_true rfl) ?_
  refine aw_aload_n (j := 0) dX12_init_4 rfl rfl ?_
  refine aw_iconst (v := 2) dX12_init_5 (by decide) ?_
  refine aw_putI dX12_init_6 f_X12_9 cl_X12 rfl hb rfl (by decide) (by decide) ?_
  refine aw_aload_n (j := 0) dX12_init_9 rfl rfl ?_
  refine aw_bipush (v := 32) dX12_init_10 (by decide) ?_
  refine aw_newa0 (n := n) (kc := 28) (ks := 28569) (N := 32) dX12_init_12 hn ar_0 (by decide) (by decide +kernel) (by decide +kernel) ?_
  refine aw_putFR (x := n) dX12_init_14 f_X12_13 cl_X12 rfl rfl rfl (at_old hb) rfl rfl rfl ?_
  refine aw_aload_n (j := 0) dX12_init_17 rfl rfl ?_
  refine aw_bipush (v := 8) dX12_init_18 (by decide) ?_
  refine aw_newa3 (n := n + 1) (kc := 27) (ks := 28561) (N := 8) dX12_init_20 (len_push hn) ar_3 (by decide) (by decide +kernel) (by decide +kernel) ?_
  refine aw_putFR (x := n + 1) dX12_init_22 f_X12_17 cl_X12 rfl rfl rfl (at_old (at_old hb)) rfl rfl rfl ?_
  refine aw_aload_n (j := 0) dX12_init_25 rfl rfl ?_
  refine aw_bipush (v := 8) dX12_init_26 (by decide) ?_
  refine aw_newa0 (n := n + 2) (kc := 26) (ks := 28553) (N := 8) dX12_init_28 (len_push (len_push hn)) ar_0 (by decide) (by decide +kernel) (by decide +kernel) ?_
  refine aw_putFR (x := n + 2) dX12_init_30 f_X12_21 cl_X12 rfl rfl rfl (at_old (at_old (at_old hb))) rfl rfl rfl ?_
  refine aw_aload_n (j := 0) dX12_init_33 rfl rfl ?_
  refine aw_bipush (v := 8) dX12_init_34 (by decide) ?_
  refine aw_newa0 (n := n + 3) (kc := 25) (ks := 28545) (N := 8) dX12_init_36 (len_push (len_push (len_push hn))) ar_0 (by decide) (by decide +kernel) (by decide +kernel) ?_
  refine aw_putFR (x := n + 3) dX12_init_38 f_X12_24 cl_X12 rfl rfl rfl (at_old (at_old (at_old (at_old hb)))) rfl rfl rfl ?_
  refine aw_aload_n (j := 0) dX12_init_41 rfl rfl ?_
  refine aw_bipush (v := 8) dX12_init_42 (by decide) ?_
  refine aw_newa0 (n := n + 4) (kc := 24) (ks := 28537) (N := 8) dX12_init_44 (len_push (len_push (len_push (len_push hn)))) ar_0 (by decide) (by decide +kernel) (by decide +kernel) ?_
  refine aw_putFR (x := n + 4) dX12_init_46 f_X12_27 cl_X12 rfl rfl rfl (at_old (at_old (at_old (at_old (at_old hb))))) rfl rfl rfl ?_
  refine aw_aload_n (j := 0) dX12_init_49 rfl rfl ?_
  refine aw_iconst (v := 5) dX12_init_50 (by decide) ?_
  refine aw_newa0 (n := n + 5) (kc := 23) (ks := 28532) (N := 5) dX12_init_51 (len_push (len_push (len_push (len_push (len_push hn))))) ar_0 (by decide) (by decide +kernel) (by decide +kernel) ?_
  refine aw_dup dX12_init_53 rfl ?_
  refine aw_iconst (v := 0) dX12_init_54 (by decide) ?_
  refine aw_iconst (v := 0) dX12_init_55 (by decide) ?_
  refine aw_iastore dX12_init_56 (at_new (len_push (len_push (len_push (len_push (len_push hn)))))) (by unfold vp_in; decide) ?_
  refine aw_dup dX12_init_57 rfl ?_
  refine aw_iconst (v := 1) dX12_init_58 (by decide) ?_
  refine aw_iconst (v := 1) dX12_init_59 (by decide) ?_
  refine aw_iastore dX12_init_60 (at_new (len_push (len_push (len_push (len_push (len_push hn)))))) (by unfold vp_in; decide) ?_
  refine aw_dup dX12_init_61 rfl ?_
  refine aw_iconst (v := 2) dX12_init_62 (by decide) ?_
  refine aw_iconst (v := 1) dX12_init_63 (by decide) ?_
  refine aw_iastore dX12_init_64 (at_new (len_push (len_push (len_push (len_push (len_push hn)))))) (by unfold vp_in; decide) ?_
  refine aw_dup dX12_init_65 rfl ?_
  refine aw_iconst (v := 3) dX12_init_66 (by decide) ?_
  refine aw_iconst (v := 0) dX12_init_67 (by decide) ?_
  refine aw_iastore dX12_init_68 (at_new (len_push (len_push (len_push (len_push (len_push hn)))))) (by unfold vp_in; decide) ?_
  refine aw_dup dX12_init_69 rfl ?_
  refine aw_iconst (v := 4) dX12_init_70 (by decide) ?_
  refine aw_iconst (v := 0) dX12_init_71 (by decide) ?_
  refine aw_iastore dX12_init_72 (at_new (len_push (len_push (len_push (len_push (len_push hn)))))) (by unfold vp_in; decide) ?_
  refine aw_putFR (x := n + 5) dX12_init_73 f_X12_30 cl_X12 rfl rfl rfl (at_old (at_old (at_old (at_old (at_old (at_old hb)))))) rfl rfl rfl ?_
  refine aw_aload_n (j := 0) dX12_init_76 rfl rfl ?_
  refine aw_iconst (v := 1) dX12_init_77 (by decide) ?_
  refine aw_putI dX12_init_78 f_X12_33 cl_X12 rfl (at_old (at_old (at_old (at_old (at_old (at_old hb)))))) rfl (by decide) (by decide) ?_
  refine aw_aload_n (j := 0) dX12_init_81 rfl rfl ?_
  refine aw_sipush (v := 160) dX12_init_82 (by decide) ?_
  refine aw_newa0 (n := n + 6) (kc := 22) (ks := 28372) (N := 160) dX12_init_85 (len_push (len_push (len_push (len_push (len_push (len_push hn)))))) ar_0 (by decide) (by decide +kernel) (by decide +kernel) ?_
  refine aw_putFR (x := n + 6) dX12_init_87 f_X12_36 cl_X12 rfl rfl rfl (at_old (at_old (at_old (at_old (at_old (at_old (at_old hb))))))) rfl rfl rfl ?_
  refine aw_aload_n (j := 0) dX12_init_90 rfl rfl ?_
  refine aw_bipush (v := 80) dX12_init_91 (by decide) ?_
  refine aw_newa1 (n := n + 7) (kc := 21) (ks := 28292) (N := 80) dX12_init_93 (len_push (len_push (len_push (len_push (len_push (len_push (len_push hn))))))) ar_1 (by decide) (by decide +kernel) (by decide +kernel) ?_
  refine aw_putFR (x := n + 7) dX12_init_95 f_X12_39 cl_X12 rfl rfl rfl (at_old (at_old (at_old (at_old (at_old (at_old (at_old (at_old hb)))))))) rfl rfl rfl ?_
  refine aw_aload_n (j := 0) dX12_init_98 rfl rfl ?_
  refine aw_bipush (v := 16) dX12_init_99 (by decide) ?_
  refine aw_newa4 (n := n + 8) (kc := 20) (ks := 28276) (N := 16) dX12_init_101 (len_push (len_push (len_push (len_push (len_push (len_push (len_push (len_push hn)))))))) ar_4 (by decide) (by decide +kernel) (by decide +kernel) ?_
  refine aw_putFR (x := n + 8) dX12_init_103 f_X12_43 cl_X12 rfl rfl rfl (at_old (at_old (at_old (at_old (at_old (at_old (at_old (at_old (at_old hb))))))))) rfl rfl rfl ?_
  refine aw_aload_n (j := 0) dX12_init_106 rfl rfl ?_
  refine aw_bipush (v := 32) dX12_init_107 (by decide) ?_
  refine aw_newa0 (n := n + 9) (kc := 19) (ks := 28244) (N := 32) dX12_init_109 (len_push (len_push (len_push (len_push (len_push (len_push (len_push (len_push (len_push hn))))))))) ar_0 (by decide) (by decide +kernel) (by decide +kernel) ?_
  refine aw_putFR (x := n + 9) dX12_init_111 f_X12_47 cl_X12 rfl rfl rfl (at_old (at_old (at_old (at_old (at_old (at_old (at_old (at_old (at_old (at_old hb)))))))))) rfl rfl rfl ?_
  refine aw_aload_n (j := 0) dX12_init_114 rfl rfl ?_
  refine aw_bipush (v := 8) dX12_init_115 (by decide) ?_
  refine aw_newa3 (n := n + 10) (kc := 18) (ks := 28236) (N := 8) dX12_init_117 (len_push (len_push (len_push (len_push (len_push (len_push (len_push (len_push (len_push (len_push hn)))))))))) ar_3 (by decide) (by decide +kernel) (by decide +kernel) ?_
  refine aw_putFR (x := n + 10) dX12_init_119 f_X12_50 cl_X12 rfl rfl rfl (at_old (at_old (at_old (at_old (at_old (at_old (at_old (at_old (at_old (at_old (at_old hb))))))))))) rfl rfl rfl ?_
  refine aw_aload_n (j := 0) dX12_init_122 rfl rfl ?_
  refine aw_sipush (v := 160) dX12_init_123 (by decide) ?_
  refine aw_newa0 (n := n + 11) (kc := 17) (ks := 28076) (N := 160) dX12_init_126 (len_push (len_push (len_push (len_push (len_push (len_push (len_push (len_push (len_push (len_push (len_push hn))))))))))) ar_0 (by decide) (by decide +kernel) (by decide +kernel) ?_
  refine aw_putFR (x := n + 11) dX12_init_128 f_X12_53 cl_X12 rfl rfl rfl (at_old (at_old (at_old (at_old (at_old (at_old (at_old (at_old (at_old (at_old (at_old (at_old hb)))))))))))) rfl rfl rfl ?_
  refine aw_aload_n (j := 0) dX12_init_131 rfl rfl ?_
  refine aw_bipush (v := 40) dX12_init_132 (by decide) ?_
  refine aw_newa1 (n := n + 12) (kc := 16) (ks := 28036) (N := 40) dX12_init_134 (len_push (len_push (len_push (len_push (len_push (len_push (len_push (len_push (len_push (len_push (len_push (len_push hn)))))))))))) ar_1 (by decide) (by decide +kernel) (by decide +kernel) ?_
  refine aw_putFR (x := n + 12) dX12_init_136 f_X12_56 cl_X12 rfl rfl rfl (at_old (at_old (at_old (at_old (at_old (at_old (at_old (at_old (at_old (at_old (at_old (at_old (at_old hb))))))))))))) rfl rfl rfl ?_
  refine aw_aload_n (j := 0) dX12_init_139 rfl rfl ?_
  refine aw_iconst (v := -1) dX12_init_140 (by decide) ?_
  refine aw_putI dX12_init_141 f_X12_59 cl_X12 rfl (at_old (at_old (at_old (at_old (at_old (at_old (at_old (at_old (at_old (at_old (at_old (at_old (at_old hb))))))))))))) rfl (by decide) (by decide) ?_
  refine aw_aload_n (j := 0) dX12_init_144 rfl rfl ?_
  refine aw_sipush (v := 1140) dX12_init_145 (by decide) ?_
  refine aw_newa0 (n := n + 13) (kc := 15) (ks := 26896) (N := 1140) dX12_init_148 (len_push (len_push (len_push (len_push (len_push (len_push (len_push (len_push (len_push (len_push (len_push (len_push (len_push hn))))))))))))) ar_0 (by decide) (by decide +kernel) (by decide +kernel) ?_
  refine aw_putFR (x := n + 13) dX12_init_150 f_X12_62 cl_X12 rfl rfl rfl (at_old (at_old (at_old (at_old (at_old (at_old (at_old (at_old (at_old (at_old (at_old (at_old (at_old (at_old hb)))))))))))))) rfl rfl rfl ?_
  refine aw_aload_n (j := 0) dX12_init_153 rfl rfl ?_
  refine aw_bipush (v := 57) dX12_init_154 (by decide) ?_
  refine aw_newa0 (n := n + 14) (kc := 14) (ks := 26839) (N := 57) dX12_init_156 (len_push (len_push (len_push (len_push (len_push (len_push (len_push (len_push (len_push (len_push (len_push (len_push (len_push (len_push hn)))))))))))))) ar_0 (by decide) (by decide +kernel) (by decide +kernel) ?_
  refine aw_putFR (x := n + 14) dX12_init_158 f_X12_65 cl_X12 rfl rfl rfl (at_old (at_old (at_old (at_old (at_old (at_old (at_old (at_old (at_old (at_old (at_old (at_old (at_old (at_old (at_old hb))))))))))))))) rfl rfl rfl ?_
  refine aw_aload_n (j := 0) dX12_init_161 rfl rfl ?_
  refine aw_bipush (v := 9) dX12_init_162 (by decide) ?_
  refine aw_newa0 (n := n + 15) (kc := 13) (ks := 26830) (N := 9) dX12_init_164 (len_push (len_push (len_push (len_push (len_push (len_push (len_push (len_push (len_push (len_push (len_push (len_push (len_push (len_push (len_push hn))))))))))))))) ar_0 (by decide) (by decide +kernel) (by decide +kernel) ?_
  refine aw_putFR (x := n + 15) dX12_init_166 f_X12_68 cl_X12 rfl rfl rfl (at_old (at_old (at_old (at_old (at_old (at_old (at_old (at_old (at_old (at_old (at_old (at_old (at_old (at_old (at_old (at_old hb)))))))))))))))) rfl rfl rfl ?_
  refine aw_aload_n (j := 0) dX12_init_169 rfl rfl ?_
  refine aw_bipush (v := 57) dX12_init_170 (by decide) ?_
  refine aw_newa0 (n := n + 16) (kc := 12) (ks := 26773) (N := 57) dX12_init_172 (len_push (len_push (len_push (len_push (len_push (len_push (len_push (len_push (len_push (len_push (len_push (len_push (len_push (len_push (len_push (len_push hn)))))))))))))))) ar_0 (by decide) (by decide +kernel) (by decide +kernel) ?_
  refine aw_putFR (x := n + 16) dX12_init_174 f_X12_71 cl_X12 rfl rfl rfl (at_old (at_old (at_old (at_old (at_old (at_old (at_old (at_old (at_old (at_old (at_old (at_old (at_old (at_old (at_old (at_old (at_old hb))))))))))))))))) rfl rfl rfl ?_
  refine aw_aload_n (j := 0) dX12_init_177 rfl rfl ?_
  refine aw_sipush (v := 3000) dX12_init_178 (by decide) ?_
  refine aw_newa4 (n := n + 17) (kc := 11) (ks := 23773) (N := 3000) dX12_init_181 (len_push (len_push (len_push (len_push (len_push (len_push (len_push (len_push (len_push (len_push (len_push (len_push (len_push (len_push (len_push (len_push (len_push hn))))))))))))))))) ar_4 (by decide) (by decide +kernel) (by decide +kernel) ?_
  refine aw_putFR (x := n + 17) dX12_init_183 f_X12_74 cl_X12 rfl rfl rfl (at_old (at_old (at_old (at_old (at_old (at_old (at_old (at_old (at_old (at_old (at_old (at_old (at_old (at_old (at_old (at_old (at_old (at_old hb)))))))))))))))))) rfl rfl rfl ?_
  refine aw_aload_n (j := 0) dX12_init_186 rfl rfl ?_
  refine aw_sipush (v := 3000) dX12_init_187 (by decide) ?_
  refine aw_newa4 (n := n + 18) (kc := 10) (ks := 20773) (N := 3000) dX12_init_190 (len_push (len_push (len_push (len_push (len_push (len_push (len_push (len_push (len_push (len_push (len_push (len_push (len_push (len_push (len_push (len_push (len_push (len_push hn)))))))))))))))))) ar_4 (by decide) (by decide +kernel) (by decide +kernel) ?_
  refine aw_putFR (x := n + 18) dX12_init_192 f_X12_77 cl_X12 rfl rfl rfl (at_old (at_old (at_old (at_old (at_old (at_old (at_old (at_old (at_old (at_old (at_old (at_old (at_old (at_old (at_old (at_old (at_old (at_old (at_old hb))))))))))))))))))) rfl rfl rfl ?_
  refine aw_aload_n (j := 0) dX12_init_195 rfl rfl ?_
  refine aw_sipush (v := 3000) dX12_init_196 (by decide) ?_
  refine aw_newa0 (n := n + 19) (kc := 9) (ks := 17773) (N := 3000) dX12_init_199 (len_push (len_push (len_push (len_push (len_push (len_push (len_push (len_push (len_push (len_push (len_push (len_push (len_push (len_push (len_push (len_push (len_push (len_push (len_push hn))))))))))))))))))) ar_0 (by decide) (by decide +kernel) (by decide +kernel) ?_
  refine aw_putFR (x := n + 19) dX12_init_201 f_X12_80 cl_X12 rfl rfl rfl (at_old (at_old (at_old (at_old (at_old (at_old (at_old (at_old (at_old (at_old (at_old (at_old (at_old (at_old (at_old (at_old (at_old (at_old (at_old (at_old hb)))))))))))))))))))) rfl rfl rfl ?_
  refine aw_aload_n (j := 0) dX12_init_204 rfl rfl ?_
  refine aw_sipush (v := 3000) dX12_init_205 (by decide) ?_
  refine aw_newa0 (n := n + 20) (kc := 8) (ks := 14773) (N := 3000) dX12_init_208 (len_push (len_push (len_push (len_push (len_push (len_push (len_push (len_push (len_push (len_push (len_push (len_push (len_push (len_push (len_push (len_push (len_push (len_push (len_push (len_push hn)))))))))))))))))))) ar_0 (by decide) (by decide +kernel) (by decide +kernel) ?_
  refine aw_putFR (x := n + 20) dX12_init_210 f_X12_83 cl_X12 rfl rfl rfl (at_old (at_old (at_old (at_old (at_old (at_old (at_old (at_old (at_old (at_old (at_old (at_old (at_old (at_old (at_old (at_old (at_old (at_old (at_old (at_old (at_old hb))))))))))))))))))))) rfl rfl rfl ?_
  refine aw_aload_n (j := 0) dX12_init_213 rfl rfl ?_
  refine aw_sipush (v := 3000) dX12_init_214 (by decide) ?_
  refine aw_newa0 (n := n + 21) (kc := 7) (ks := 11773) (N := 3000) dX12_init_217 (len_push (len_push (len_push (len_push (len_push (len_push (len_push (len_push (len_push (len_push (len_push (len_push (len_push (len_push (len_push (len_push (len_push (len_push (len_push (len_push (len_push hn))))))))))))))))))))) ar_0 (by decide) (by decide +kernel) (by decide +kernel) ?_
  refine aw_putFR (x := n + 21) dX12_init_219 f_X12_86 cl_X12 rfl rfl rfl (at_old (at_old (at_old (at_old (at_old (at_old (at_old (at_old (at_old (at_old (at_old (at_old (at_old (at_old (at_old (at_old (at_old (at_old (at_old (at_old (at_old (at_old hb)))))))))))))))))))))) rfl rfl rfl ?_
  refine aw_aload_n (j := 0) dX12_init_222 rfl rfl ?_
  refine aw_sipush (v := 8192) dX12_init_223 (by decide) ?_
  refine aw_newa0 (n := n + 22) (kc := 6) (ks := 3581) (N := 8192) dX12_init_226 (len_push (len_push (len_push (len_push (len_push (len_push (len_push (len_push (len_push (len_push (len_push (len_push (len_push (len_push (len_push (len_push (len_push (len_push (len_push (len_push (len_push (len_push hn)))))))))))))))))))))) ar_0 (by decide) (by decide +kernel) (by decide +kernel) ?_
  refine aw_putFR (x := n + 22) dX12_init_228 f_X12_89 cl_X12 rfl rfl rfl (at_old (at_old (at_old (at_old (at_old (at_old (at_old (at_old (at_old (at_old (at_old (at_old (at_old (at_old (at_old (at_old (at_old (at_old (at_old (at_old (at_old (at_old (at_old hb))))))))))))))))))))))) rfl rfl rfl ?_
  refine aw_aload_n (j := 0) dX12_init_231 rfl rfl ?_
  refine aw_sipush (v := 399) dX12_init_232 (by decide) ?_
  refine aw_newa0 (n := n + 23) (kc := 5) (ks := 3182) (N := 399) dX12_init_235 (len_push (len_push (len_push (len_push (len_push (len_push (len_push (len_push (len_push (len_push (len_push (len_push (len_push (len_push (len_push (len_push (len_push (len_push (len_push (len_push (len_push (len_push (len_push hn))))))))))))))))))))))) ar_0 (by decide) (by decide +kernel) (by decide +kernel) ?_
  refine aw_putFR (x := n + 23) dX12_init_237 f_X12_92 cl_X12 rfl rfl rfl (at_old (at_old (at_old (at_old (at_old (at_old (at_old (at_old (at_old (at_old (at_old (at_old (at_old (at_old (at_old (at_old (at_old (at_old (at_old (at_old (at_old (at_old (at_old (at_old hb)))))))))))))))))))))))) rfl rfl rfl ?_
  refine aw_aload_n (j := 0) dX12_init_240 rfl rfl ?_
  refine aw_sipush (v := 3000) dX12_init_241 (by decide) ?_
  refine aw_newa0 (n := n + 24) (kc := 4) (ks := 182) (N := 3000) dX12_init_244 (len_push (len_push (len_push (len_push (len_push (len_push (len_push (len_push (len_push (len_push (len_push (len_push (len_push (len_push (len_push (len_push (len_push (len_push (len_push (len_push (len_push (len_push (len_push (len_push hn)))))))))))))))))))))))) ar_0 (by decide) (by decide +kernel) (by decide +kernel) ?_
  refine aw_putFR (x := n + 24) dX12_init_246 f_X12_95 cl_X12 rfl rfl rfl (at_old (at_old (at_old (at_old (at_old (at_old (at_old (at_old (at_old (at_old (at_old (at_old (at_old (at_old (at_old (at_old (at_old (at_old (at_old (at_old (at_old (at_old (at_old (at_old (at_old hb))))))))))))))))))))))))) rfl rfl rfl ?_
  refine aw_aload_n (j := 0) dX12_init_249 rfl rfl ?_
  refine aw_bipush (v := 36) dX12_init_250 (by decide) ?_
  refine aw_newa0 (n := n + 25) (kc := 3) (ks := 146) (N := 36) dX12_init_252 (len_push (len_push (len_push (len_push (len_push (len_push (len_push (len_push (len_push (len_push (len_push (len_push (len_push (len_push (len_push (len_push (len_push (len_push (len_push (len_push (len_push (len_push (len_push (len_push (len_push hn))))))))))))))))))))))))) ar_0 (by decide) (by decide +kernel) (by decide +kernel) ?_
  refine aw_putFR (x := n + 25) dX12_init_254 f_X12_98 cl_X12 rfl rfl rfl (at_old (at_old (at_old (at_old (at_old (at_old (at_old (at_old (at_old (at_old (at_old (at_old (at_old (at_old (at_old (at_old (at_old (at_old (at_old (at_old (at_old (at_old (at_old (at_old (at_old (at_old hb)))))))))))))))))))))))))) rfl rfl rfl ?_
  refine aw_aload_n (j := 0) dX12_init_257 rfl rfl ?_
  refine aw_sipush (v := 142) dX12_init_258 (by decide) ?_
  refine aw_newa0 (n := n + 26) (kc := 2) (ks := 4) (N := 142) dX12_init_261 (len_push (len_push (len_push (len_push (len_push (len_push (len_push (len_push (len_push (len_push (len_push (len_push (len_push (len_push (len_push (len_push (len_push (len_push (len_push (len_push (len_push (len_push (len_push (len_push (len_push (len_push hn)))))))))))))))))))))))))) ar_0 (by decide) (by decide +kernel) (by decide +kernel) ?_
  refine aw_putFR (x := n + 26) dX12_init_263 f_X12_101 cl_X12 rfl rfl rfl (at_old (at_old (at_old (at_old (at_old (at_old (at_old (at_old (at_old (at_old (at_old (at_old (at_old (at_old (at_old (at_old (at_old (at_old (at_old (at_old (at_old (at_old (at_old (at_old (at_old (at_old (at_old hb))))))))))))))))))))))))))) rfl rfl rfl ?_
  refine aw_aload_n (j := 0) dX12_init_266 rfl rfl ?_
  refine aw_iconst (v := 2) dX12_init_267 (by decide) ?_
  refine aw_newa3 (n := n + 27) (kc := 1) (ks := 2) (N := 2) dX12_init_268 (len_push (len_push (len_push (len_push (len_push (len_push (len_push (len_push (len_push (len_push (len_push (len_push (len_push (len_push (len_push (len_push (len_push (len_push (len_push (len_push (len_push (len_push (len_push (len_push (len_push (len_push (len_push hn))))))))))))))))))))))))))) ar_3 (by decide) (by decide +kernel) (by decide +kernel) ?_
  refine aw_putFR (x := n + 27) dX12_init_270 f_X12_104 cl_X12 rfl rfl rfl (at_old (at_old (at_old (at_old (at_old (at_old (at_old (at_old (at_old (at_old (at_old (at_old (at_old (at_old (at_old (at_old (at_old (at_old (at_old (at_old (at_old (at_old (at_old (at_old (at_old (at_old (at_old (at_old hb)))))))))))))))))))))))))))) rfl rfl rfl ?_
  refine aw_aload_n (j := 0) dX12_init_273 rfl rfl ?_
  refine aw_iconst (v := 2) dX12_init_274 (by decide) ?_
  refine aw_newa0 (n := n + 28) (kc := 0) (ks := 0) (N := 2) dX12_init_275 (len_push (len_push (len_push (len_push (len_push (len_push (len_push (len_push (len_push (len_push (len_push (len_push (len_push (len_push (len_push (len_push (len_push (len_push (len_push (len_push (len_push (len_push (len_push (len_push (len_push (len_push (len_push (len_push hn)))))))))))))))))))))))))))) ar_0 (by decide) (by decide +kernel) (by decide +kernel) ?_
  refine aw_putFR (x := n + 28) dX12_init_277 f_X12_107 cl_X12 rfl rfl rfl (at_old (at_old (at_old (at_old (at_old (at_old (at_old (at_old (at_old (at_old (at_old (at_old (at_old (at_old (at_old (at_old (at_old (at_old (at_old (at_old (at_old (at_old (at_old (at_old (at_old (at_old (at_old (at_old (at_old hb))))))))))))))))))))))))))))) rfl rfl rfl ?_
  exact aw_ret (v := none) rfl (Or.inl ⟨rfl, rfl, dX12_init_280⟩) ⟨rfl, rfl⟩
end
