/-! CALL: of, with its answers -/
def ofA (v : EV) (g : GS) (x y : Int32) : Option Int32 := if 0 ≤ x.toInt ∧ x.toInt < nE v then (if y = 0 then some (pwG v g x.toNatClampNeg) else if y = 1 then some (g.2.1 x.toNatClampNeg) else if y = 2 then some (g.2.2.1 x.toNatClampNeg) else if y = 3 then some (if iE v x.toNatClampNeg = true then 1 else 0) else if y = 4 then some (g.2.2.2.1 x.toNatClampNeg) else none) else none
section OFF
variable {ad : Nat → Nat} {d : Nat} {m : Wm} {g : GS} {v : EV} {x y : Int32}
theorem ofA_no (h : ¬ InN (nE v) x) : ofA v g x y = none := if_neg (ninN_of h)
theorem ofA_in {s : Nat} (h : InN (nE v) (nI s)) (hs : s < 8) : ofA v g (nI s) y = if y = 0 then some (pwG v g s) else if y = 1 then some (g.2.1 s) else if y = 2 then some (g.2.2.1 s) else if y = 3 then some (if iE v s = true then 1 else 0) else if y = 4 then some (g.2.2.2.1 s) else none := by
  unfold ofA
  rw [if_pos (inN_of h), nI_clamp (by omega)]
theorem e_ofM (w : WT m) (hm : HM (nE v) m g) (em : EM m v) : Ct ad μX12_of (d + 300) [.ref (ad 187), .int x, .int y] m (fun r m' => WT m' ∧ Fx (RS [20, 22, 28]) m m' ∧ ∃ u : Int32, r = some (.int u) ∧ (∀ z, ofA v g x y = some z → m'.1 187 17 = 0 ∧ u = z) ∧ (ofA v g x y = none → m'.1 187 17 = 1)) := by
  have n8 := em.2.2.1
  have w0 : WT (uI m 187 17 0) := w.n rfl
  have f0 : Fx (RS [20, 22, 28]) m (uI m 187 17 0) := Fx.rf.i rfl
  have hm0 : HM (nE v) (uI m 187 17 0) g := hm
  have em0 : EM (uI m 187 17 0) v := em
  have t0 : (uI m 187 17 0).1 187 17 = 0 := u_eq
  refine v_X12_of (d := d + 299) ?_
  generalize uI m 187 17 0 = m1 at w0 f0 hm0 em0 t0 ⊢
  have lost : ofA v g x y = none → Ct ad μX12_lost (d + 299) [.ref (ad 187)] m1 (fun r m3 => ∃ v4 : Int32, r = some (.int v4) ∧ (WT m3 ∧ Fx (RS [20, 22, 28]) m m3 ∧ ∃ u : Int32, some (.int v4) = some (Value.int u) ∧ (∀ z, ofA v g x y = some z → m3.1 187 17 = 0 ∧ u = z) ∧ (ofA v g x y = none → m3.1 187 17 = 1))) := fun e => v_X12_lost ⟨0, rfl, w0.n rfl, f0.i rfl, 0, rfl, fun z hz => absurd (e.symm.trans hz) (by intro q; cases q), fun _ => u_eq⟩
  have good : ∀ (z : Int32) (m3 : Wm), ofA v g x y = some z → WT m3 → Fx (RS [20, 22, 28]) m m3 → m3.1 187 17 = 0 → (WT m3 ∧ Fx (RS [20, 22, 28]) m m3 ∧ ∃ u : Int32, some (.int z) = some (Value.int u) ∧ (∀ z, ofA v g x y = some z → m3.1 187 17 = 0 ∧ u = z) ∧ (ofA v g x y = none → m3.1 187 17 = 1)) := fun z m3 e w3 f3 t3 => ⟨w3, f3, z, rfl, fun z2 h2 => ⟨t3, Option.some.inj (e.symm.trans h2)⟩, fun h2 => absurd (e.symm.trans h2) (by intro q; cases q)⟩
  refine (sideM (d := d + 298) (x := x) em0.1 n8).to ?_
  rintro _ m2 ⟨eq, v1, rfl, y1, y2⟩
  obtain rfl := eq.symm
  refine ⟨v1, rfl, fun c => lost (ofA_no (y1 c)), fun c => ?_⟩
  have hI := y2 c
  obtain ⟨s, hs, rfl⟩ := hI.of
  have e := ofA_in (g := g) (y := y) hI (by omega)
  have V : vp_in (nI s) 8 := nat_in (by omega) (by decide)
  refine (inM (lo := 0) (hi := 4) rfl rfl).to ?_
  rintro _ m2 ⟨eq, v2, rfl, b1, b2⟩
  obtain rfl := eq.symm
  have z0 : (0 : Int32).toInt = 0 := rfl
  have z1 : (1 : Int32).toInt = 1 := rfl
  have z2 : (2 : Int32).toInt = 2 := rfl
  have z3 : (3 : Int32).toInt = 3 := rfl
  have z4 : (4 : Int32).toInt = 4 := rfl
  refine ⟨v2, rfl, fun c2 => ⟨fun q0 => ⟨fun q1 => ⟨fun q2 => ⟨fun q3 => ⟨V, ?_⟩, fun q3 => ⟨V, fun q => ?_, fun q => ?_⟩⟩, fun q2 => ⟨V, ?_⟩⟩, fun q1 => ⟨V, ?_⟩⟩, fun q0 => (powerM (d := d + 131) w0 hm0 em0 hs).to ?_⟩, fun c2 => lost ?_⟩
  · have q4 : y = 4 := by
      have b := b2 c2
      have p0 : y.toInt ≠ 0 := fun z => q0 ((fa_eq _ _).mpr (by omega))
      have p1 : y.toInt ≠ 1 := fun z => q1 ((fa_eq _ _).mpr (by omega))
      have p2 : y.toInt ≠ 2 := fun z => q2 ((fa_eq _ _).mpr (by omega))
      have p3 : y.toInt ≠ 3 := fun z => q3 ((fa_eq _ _).mpr (by omega))
      exact (fa_eq _ _).mpr (by omega)
    rw [nI_clamp (by omega), hm0.2.2.2.1 s hs]
    exact good _ _ (by rw [e, if_neg q0, if_neg q1, if_neg q2, if_neg q3, if_pos q4]) w0 f0 t0
  · rw [nI_clamp (by omega), em0.2.2.2.2.2.1 s hs] at q
    refine good _ _ ?_ w0 f0 t0
    rw [e, if_neg q0, if_neg q1, if_neg q2, if_pos q3, q]
  · rw [nI_clamp (by omega), em0.2.2.2.2.2.1 s hs] at q
    refine good _ _ ?_ w0 f0 t0
    rw [e, if_neg q0, if_neg q1, if_neg q2, if_pos q3]
    by_cases c3 : iE v s = true
    · rw [if_pos c3]
    · rw [if_neg c3] at q
      exact absurd rfl q
  · rw [nI_clamp (by omega), hm0.2.2.1 s hs]
    exact good _ _ (by rw [e, if_neg q0, if_neg q1, if_pos q2]) w0 f0 t0
  · rw [nI_clamp (by omega), hm0.2.1 s hs]
    exact good _ _ (by rw [e, if_neg q0, if_pos q1]) w0 f0 t0
  · rintro _ m3 ⟨w3, f3, rfl⟩
    exact ⟨_, rfl, good _ _ (by rw [e, if_pos q0]) w3 (f0.tr f3 (RS_sub rfl)) ((f3.at (nRS (ρ := 20) rfl rfl)).trans t0)⟩
  · have p : ∀ k : Nat, k ≤ 4 → y ≠ nI k := fun k hk z => b1 c2 (by rw [z, nI_toInt (by omega)]; omega)
    have p0 : y ≠ 0 := p 0 (by omega)
    have p1 : y ≠ 1 := p 1 (by omega)
    have p2 : y ≠ 2 := p 2 (by omega)
    have p3 : y ≠ 3 := p 3 (by omega)
    have p4 : y ≠ 4 := p 4 (by omega)
    rw [e, if_neg p0, if_neg p1, if_neg p2, if_neg p3, if_neg p4]
/-- the model's half, behind what the class answered -/
theorem og_of {c : Nat} {H : List GS} {k : Int32} {m1 : Wm} (I1 : IV m) (kd : KGd m g v H) (kb : KB c m) (w1 : WT m1) (f1 : Fx (RS [14, 51]) m m1) (hk : (∃ z, ofA v g x y = some z ∧ k = 0 ∧ m1.2.1 217 (0 : Int32).toNatClampNeg = z.toInt64) ∨ (ofA v g x y = none ∧ k = 1)) : Ct ad μX12_of (d + 300) [.ref (ad 187), .int x, .int y] m1 (fun r m3 => ∃ u : Int32, r = some (.int u) ∧ m3.1 187 17 = k ∧ (k = 0 → m3.2.1 217 (0 : Int32).toNatClampNeg = u.toInt64) ∧ InvK (KX KG (c + 1)) m3) := by
  have kd1 := kd.fx f1 rfl
  refine (e_ofM (d := d) w1 kd1.2.1 kd1.2.2.2.1).to ?_
  rintro _ m3 ⟨w3, f3, u, rfl, s1, s2⟩
  have J : InvK (KX KG (c + 1)) m3 := ⟨w3, I1.f2 f1 f3 rfl rfl, ⟨g, v, H, kd1.fx f3 rfl⟩, KB.fd c f1 f3 kb rfl rfl⟩
  rcases hk with ⟨z, e, rfl, h3⟩ | ⟨e, rfl⟩
  · obtain ⟨p1, rfl⟩ := s1 z e
    exact ⟨_, rfl, p1, fun _ => (f3 217 _ (nRS (ρ := 51) rfl rfl)).2.1.trans h3, J⟩
  · exact ⟨u, rfl, s2 e, fun q => absurd q (by decide), J⟩
end OFF
/-! A GAME OF A SEARCH: by POINTS and RAISED as they are ahead of it, on both sides -/
def qtG (v : EV) (a b : Nat) (th : Int32) (g : GS) : GS := stlG false v a b (wnG v g a b th) g
section QTG
variable {v : EV} {a b f t : Nat} {x th : Int32} {g g' : GS} {cn cn' : Bool}
theorem tch_sk (h : g.1 = g'.1) : (tchG cn v f t g).1 = (tchG cn' v f t g').1 := by
  obtain ⟨g1, g2⟩ := g
  obtain ⟨k1, k2⟩ := g'
  dsimp only at h
  subst h
  unfold tchG gainG
  dsimp only
  by_cases c : artG g1 f t (aE v) = -1
  · rw [if_pos c, if_pos c]
  · rw [if_neg c, if_neg c]
theorem stl_sk (h : g.1 = g'.1) : (stlG cn v a b x g).1 = (stlG cn' v a b x g').1 := by
  have hp : (if cn = true then ptG a b x g else g).1 = (if cn' = true then ptG a b x g' else g').1 := by
    cases cn <;> cases cn' <;> exact h
  unfold stlG
  generalize (if cn = true then ptG a b x g else g) = p at hp
  generalize (if cn' = true then ptG a b x g' else g') = p' at hp
  by_cases c2 : x = 2
  · rw [if_pos c2, if_pos c2]
    exact hp
  · rw [if_neg c2, if_neg c2]
    generalize (if x = 0 then a else b) = wi
    generalize (if x = 0 then b else a) = lo
    have h1 : (stl1 cn v wi lo p).1 = (stl1 cn' v wi lo p').1 := by
      unfold stl1
      by_cases c : lE v 0 = 0 ∨ lE v 0 = 2
      · rw [if_pos c, if_pos c]
        exact tch_sk hp
      · rw [if_neg c, if_neg c]
        exact hp
    unfold stl2
    by_cases c : lE v 0 = 1 ∨ lE v 0 = 2
    · rw [if_pos c, if_pos c]
      exact tch_sk h1
    · rw [if_neg c, if_neg c]
      exact h1
theorem tch_lu : (tchG cn v f t g).2.2.2 = g.2.2.2 := by
  unfold tchG
  split <;> rfl
theorem tch_f2 : (tchG false v f t g).2 = g.2 := by
  unfold tchG
  split <;> rfl
theorem stl_lu : (stlG cn v a b x g).2.2.2.2 = g.2.2.2.2 := by
  have hp : (if cn = true then ptG a b x g else g).2.2.2.2 = g.2.2.2.2 := by cases cn <;> rfl
  unfold stlG
  generalize (if cn = true then ptG a b x g else g) = p at hp
  by_cases c2 : x = 2
  · rw [if_pos c2]
    exact hp
  · rw [if_neg c2]
    unfold stl2 stl1
    split
    · rw [tch_lu]
      split
      · rw [tch_lu]; exact hp
      · exact hp
    · split
      · rw [tch_lu]; exact hp
      · exact hp
theorem stl_f2 : (stlG false v a b x g).2 = g.2 := by
  unfold stlG
  rw [if_neg (show ¬ (false = true) by decide)]
  by_cases c2 : x = 2
  · rw [if_pos c2]
  · rw [if_neg c2]
    unfold stl2 stl1
    split
    · rw [tch_f2]
      split
      · rw [tch_f2]
      · rfl
    · split
      · rw [tch_f2]
      · rfl
theorem tch_at (ha : aE v ≤ 4) {k : Nat} (hf : k / 4 ≠ f) (ht : k / 4 ≠ t) : (tchG cn v f t g).1 k = g.1 k := by
  unfold tchG
  by_cases c : artG g.1 f t (aE v) = -1
  · rw [if_pos c]
  · rw [if_neg c]
    rcases artG_of (s := g.1) (f := f) (t := t) (n := aE v) with q | ⟨i, hi, q⟩
    · exact absurd q c
    · rw [q, nI_clamp (by omega)]
      exact (if_neg (by omega)).trans (if_neg (by omega))
theorem stl_at (ha : aE v ≤ 4) {k : Nat} (h1 : k / 4 ≠ a) (h2 : k / 4 ≠ b) : (stlG cn v a b x g).1 k = g.1 k := by
  have hp : (if cn = true then ptG a b x g else g).1 k = g.1 k := by cases cn <;> rfl
  unfold stlG
  generalize (if cn = true then ptG a b x g else g) = p at hp
  by_cases c2 : x = 2
  · rw [if_pos c2]
    exact hp
  · rw [if_neg c2]
    have hw : k / 4 ≠ (if x = 0 then a else b) := by split <;> assumption
    have hl : k / 4 ≠ (if x = 0 then b else a) := by split <;> assumption
    unfold stl2 stl1
    split
    · rw [tch_at ha hl hw]
      split
      · rw [tch_at ha hw hl]; exact hp
      · exact hp
    · split
      · rw [tch_at ha hw hl]; exact hp
      · exact hp
end QTG
section QTC
variable {ad : Nat → Nat} {d b0 b1 ρ0 ρ1 s a e : Nat} {m m0 : Wm} {g g' g0 : GS} {v : EV} {th : Int32}
theorem HC.cg {b : Nat} (h : HC b m g) (e1 : ∀ k, k < 32 → g'.1 k = g.1 k) (e2 : g'.2 = g.2) : HC b m g' := by
  obtain ⟨h1, h2⟩ := h
  refine ⟨fun k hk => (h1 k hk).trans (e1 k hk).symm, ?_⟩
  rw [e2]
  exact h2
def cpS (s j : Nat) (g g' : GS) : GS := (fun k => if 4 * s ≤ k ∧ k < 4 * s + j then g.1 k else g'.1 k, g'.2)
theorem copySkC (w : WT m) (hb0 : SS b0 ρ0) (hb1 : SS b1 ρ1) (hd : b1 + 4 < b0 ∨ b0 + 4 < b1) (h0 : HC b0 m g') (h1 : HC b1 m g) (hs : s < 8) : Ct ad μX8_copySkills (d + 1) [.ref (ad b0), .ref (ad b1), .int (nI s)] m (fun r m' => r = none ∧ WT m' ∧ Fx (RS [2, ρ0]) m m' ∧ HC b0 m' (cpS s 4 g g')) := by
  have L : ∀ (n j : Nat) (m1 : Wm), j + n = 4 → WT m1 → Fx (RS [2, ρ0]) m m1 → HC b0 m1 (cpS s j g g') → HC b1 m1 g → AW ad E0 μX8_copySkills (d + 1) (fun r m' => r = none ∧ WT m' ∧ Fx (RS [2, ρ0]) m m' ∧ HC b0 m' (cpS s 4 g g')) 2 [(0, .ref (ad b0)), (1, .ref (ad b1)), (2, .int (nI s)), (3, .int (nI j))] [] m1 := by
    intro n
    induction n with
    | zero =>
      intro j m1 hj w1 f1 c0 c1
      obtain rfl : j = 4 := hj
      exact g_X8_copySkills_2 hb0.1 hb1.1 ⟨fun _ => ⟨rfl, w1, f1, c0⟩, fun c => absurd ((le_l 4 4 rfl (by decide) (by decide)).mpr (by omega)) c⟩
    | succ n ih =>
      intro j m1 hj w1 f1 c0 c1
      refine g_X8_copySkills_2 hb0.1 hb1.1 ⟨fun c => absurd ((le_l 4 4 rfl (by decide) (by omega)).mp c) (by omega), fun _ => (skillC (d := d) hb1 c1 hs (a := j) (by omega)).to ?_⟩
      rintro _ m2 ⟨eq, rfl⟩
      obtain rfl := eq.symm
      refine ⟨_, rfl, (putC (d := d) hb0 hs (a := j) (by omega)).to ?_⟩
      rintro _ m3 ⟨rfl, rfl⟩
      rw [nI_1]
      refine ⟨rfl, ih (j + 1) _ (by omega) (hb0.wu w1 (by decide)) (hb0.fu f1 (by decide)) (HC.cg c0.sk (fun k hk => ?_) rfl) (c1.o (by omega))⟩
      show (if 4 * s ≤ k ∧ k < 4 * s + (j + 1) then g.1 k else g'.1 k) = (if k = 4 * s + j then g.1 (4 * s + j) else (if 4 * s ≤ k ∧ k < 4 * s + j then g.1 k else g'.1 k))
      by_cases q : k = 4 * s + j
      · rw [if_pos q, if_pos (by omega), q]
      · rw [if_neg q]
        by_cases q2 : 4 * s ≤ k ∧ k < 4 * s + j
        · rw [if_pos q2, if_pos (by omega)]
        · rw [if_neg q2, if_neg (by omega)]
  refine v_X8_copySkills hb0.1 hb1.1 (L 4 0 m rfl w Fx.rf (h0.cg (fun k _ => ?_) rfl) h1)
  exact if_neg (by omega)
theorem powC26 (w : WT m) (h : HC 26 m g) (hE : EC m v) (hs : s < 8) : Ct ad μX1_power (d + 4) [.ref (ad 3), .ref (ad 26), .int (nI s)] m (fun r m' => WT m' ∧ Fx (RS [14]) m m' ∧ r = some (.int (pwG v g s))) := by
  obtain ⟨P, hP, hRu, hV⟩ := valueC (ad := ad) (d := d) SS_26 (Or.inr (Or.inr (Or.inl rfl))) w h hE hs
  refine v_X1_power (d := d + 3) SS_26.1 ⟨P, hP, hRu, ?_⟩
  rw [hE.2.1]
  refine hV.to ?_
  rintro _ m1 ⟨w1, f1, rfl⟩
  exact ⟨_, rfl, w1, f1, rfl⟩
theorem powAfterC (w : WT m) (h : HC 26 m g) (h0 : HC 21 m g) (hE : EC m v) (hs : s < 8) (ha : a < 8) (he : e < 8) (hae : a ≠ e) (ht : th = 0 ∨ th = 1 ∨ th = 2 ∨ th = 3) : Ct ad μX11_powerAfter (d + 6) [.ref (ad 0), .int (nI s), .int (nI a), .int (nI e), .int th] m (fun r m' => WT m' ∧ Fx (RS [2, 5, 14]) m m' ∧ r = some (.int (pwG v (qtG v a e th g) s)) ∧ HC 26 m' g) := by
  have hG : GR 5 := Or.inr (Or.inr (Or.inl rfl))
  refine v_X11_powerAfter (d := d + 5) ((resultC (d := d + 1) SS_26 hG w h hE ha he ht).to ?_)
  rintro _ m1 ⟨w1, f1, rfl⟩
  refine ⟨_, rfl, (settleC (d := d + 2) (cn := false) SS_26 hG w1 (h.fx SS_26 f1 rfl) (hE.fx f1 rfl) ha he hae (by decide)).to ?_⟩
  rintro _ m2 ⟨rfl, w2, f2, h2⟩
  refine ⟨rfl, (powC26 (d := d + 1) w2 h2 ((hE.fx f1 rfl).fx f2 rfl) hs).to ?_⟩
  rintro _ m3 ⟨w3, f3, rfl⟩
  have h03 : HC 21 m3 g := ((h0.fx SS_21 f1 rfl).fx SS_21 f2 rfl).fx SS_21 f3 rfl
  refine ⟨_, rfl, (copySkC (d := d + 4) w3 SS_26 SS_21 (Or.inl (by decide)) (h2.fx SS_26 f3 rfl) h03 ha).to ?_⟩
  rintro _ m4 ⟨rfl, w4, f4, h4⟩
  refine ⟨rfl, (copySkC (d := d + 4) w4 SS_26 SS_21 (Or.inl (by decide)) h4 (h03.fx SS_21 f4 rfl) he).to ?_⟩
  rintro _ m5 ⟨rfl, w5, f5, h5⟩
  refine ⟨rfl, w5, ((((Fx.tr Fx.rf f1 (RS_sub rfl)).tr f2 (RS_sub rfl)).tr f3 (RS_sub rfl)).tr f4 (RS_sub rfl)).tr f5 (RS_sub rfl), rfl, h5.cg (fun k hk => ?_) stl_f2.symm⟩
  show g.1 k = if 4 * e ≤ k ∧ k < 4 * e + 4 then g.1 k else if 4 * a ≤ k ∧ k < 4 * a + 4 then g.1 k else (stlG false v a e (wnG v g a e th) g).1 k
  split
  · rfl
  · split
    · rfl
    · exact (stl_at hE.2.2.2.1 (by omega) (by omega)).symm
end QTC
section QTM
variable {ad : Nat → Nat} {d n s a e : Nat} {m m0 : Wm} {g g' g0 : GS} {v : EV} {th : Int32}
theorem HM.cg {n : Nat} (h : HM n m g) (e1 : ∀ k, k < 4 * n → g'.1 k = g.1 k) (e2 : g'.2 = g.2) : HM n m g' := by
  obtain ⟨h1, h2⟩ := h
  refine ⟨fun k hk => (h1 k hk).trans (e1 k hk).symm, ?_⟩
  rw [e2]
  exact h2
theorem goQuietM (w : WT m) (h : HM (nE v) m g) (hE : EM m v) (hL : HL (nE v) 204 0 m g0) (h2 : g.2 = g0.2) (ha : a < nE v) (he : e < nE v) (hae : a ≠ e) (ht : th = 0 ∨ th = 1 ∨ th = 2 ∨ th = 3) : Ct ad μX12_goQuiet (d + 170) [.ref (ad 187), .int (nI a), .int (nI e), .int th] m (fun r m' => r = none ∧ WT m' ∧ Fx (RS [22, 24, 28]) m m' ∧ HM (nE v) m' (qtG v a e th g)) := by
  refine v_X12_goQuiet (d := d + 169) ((winnerM (d := d) w h hE ha he).to ?_)
  rintro _ m1 ⟨w1, f1, rfl⟩
  refine ⟨_, rfl, (settleM (d := d + 166) w1 (h.fx f1 rfl rfl) (hE.fx f1 rfl) ha he hae ht).to ?_⟩
  rintro _ m2 ⟨rfl, w2, f2, hm2⟩
  have F2 : Fx (RS [22, 24, 28]) m m2 := (Fx.tr Fx.rf f1 (RS_sub rfl)).tr f2 (RS_sub rfl)
  refine ⟨rfl, ?_⟩
  have L : ∀ (n j : Nat) (m3 : Wm), j + n = 8 → WT m3 → Fx (RS [22, 24, 28]) m m3 → (∀ k, m3.1 188 k = m2.1 188 k) → m3.1 187 8 = m2.1 187 8 → (∀ k, k < j → k < nE v → m3.1 190 k = g0.2.1 k ∧ m3.1 191 k = g0.2.2.1 k ∧ m3.1 192 k = g0.2.2.2.1 k) → AW ad E0 μX12_goQuiet (d + 170) (fun r m' => r = none ∧ WT m' ∧ Fx (RS [22, 24, 28]) m m' ∧ HM (nE v) m' (qtG v a e th g)) 17 [(0, .ref (ad 187)), (4, .int (nI j))] [] m3 := by
    intro n
    induction n with
    | zero =>
      intro j m3 hj w3 f3 k1 k2 k3
      refine g_X12_goQuiet_17 (d := d + 169) ⟨fun _ => ⟨rfl, w3, f3, fun k hk => ?_, fun k hk => ?_, fun k hk => ?_, fun k hk => ?_, ?_⟩, fun c => absurd ((le_l 8 8 rfl (by decide) (by omega)).mpr (by omega)) c⟩
      · rw [k1 k, hm2.1 k hk]
        have e1 : (stlG true v a e (wnG v g a e th) (thG th a e g)).1 = (qtG v a e th g).1 := stl_sk (g := thG th a e g) (g' := g) rfl
        exact congrFun e1 k
      · have e2 : (qtG v a e th g).2 = g0.2 := stl_f2.trans h2
        rw [e2]
        exact (k3 k (by have := hE.2.2.1; omega) hk).1
      · have e2 : (qtG v a e th g).2 = g0.2 := stl_f2.trans h2
        rw [e2]
        exact (k3 k (by have := hE.2.2.1; omega) hk).2.1
      · have e2 : (qtG v a e th g).2 = g0.2 := stl_f2.trans h2
        rw [e2]
        exact (k3 k (by have := hE.2.2.1; omega) hk).2.2
      · rw [k2, hm2.2.2.2.2]
        have e2 : (qtG v a e th g).2 = g.2 := stl_f2
        rw [e2, stl_lu]
        rfl
    | succ n ih =>
      intro j m3 hj w3 f3 k1 k2 k3
      have hL3 : HL (nE v) 204 0 m3 g0 := hL.fx (ρ := 34) f3 (fun _ => rfl) rfl
      refine g_X12_goQuiet_17 (d := d + 169) ⟨fun c => absurd ((le_l 8 8 rfl (by decide) (by omega)).mp c) (by omega), fun _ => ?_⟩
      rw [l_mul 3 3 rfl, l_add 32 32 rfl, add_l 1 1 rfl, add_l 2 2 rfl, nI_clamp (by omega), nI_clamp (by omega), nI_clamp (by omega), nI_clamp (by omega), nI_1]
      refine ⟨nat_in (by omega) (by decide), nat_in (by omega) (by decide), nat_in (by omega) (by decide), nat_in (by omega) (by decide), nat_in (by omega) (by decide), nat_in (by omega) (by decide), ?_⟩
      refine ih (j + 1) _ (by omega) (((w3.n rfl).n rfl).n rfl) (((f3.i rfl).i rfl).i rfl) (fun k => ?_) ?_ (fun k hk hn => ?_)
      · exact ((u_ne (by omega)).trans ((u_ne (by omega)).trans (u_ne (by omega)))).trans (k1 k)
      · exact ((u_ne (by omega)).trans ((u_ne (by omega)).trans (u_ne (by omega)))).trans k2
      · obtain ⟨-, -, l1, l2, l3, -⟩ := hL3
        by_cases q : k = j
        · subst q
          have t1 := l1 k hn
          have t2 := l2 k hn
          have t3 := l3 k hn
          rw [Nat.zero_add] at t1 t2 t3
          refine ⟨?_, ?_, ?_⟩
          · exact (u_ne (by omega)).trans ((u_ne (by omega)).trans (u_eq.trans t1))
          · exact (u_ne (by omega)).trans (u_eq.trans ((u_ne (by omega)).trans t2))
          · exact u_eq.trans ((u_ne (by omega)).trans ((u_ne (by omega)).trans t3))
        · obtain ⟨p1, p2, p3⟩ := k3 k (by omega) hn
          refine ⟨?_, ?_, ?_⟩
          · exact (u_ne (by omega)).trans ((u_ne (by omega)).trans ((u_ne (by omega)).trans p1))
          · exact (u_ne (by omega)).trans ((u_ne (by omega)).trans ((u_ne (by omega)).trans p2))
          · exact (u_ne (by omega)).trans ((u_ne (by omega)).trans ((u_ne (by omega)).trans p3))
  exact L 8 0 m2 (by omega) w2 F2 (fun _ => rfl) rfl (fun k hk => absurd hk (by omega))
end QTM
/-! CALL: next, with its answers -/
abbrev NxS : Type := Int32 × Int32
def nxS (v : EV) (s : Nat) (g : GS) (w a b : Nat) (S : NxS) : NxS :=
  if S.1 = -1 ∨ ¬ pwG v (qtG v a b (nI w) g) s ≤ S.2 then ((((100 : Int32) * nI w) + ((10 : Int32) * nI a)) + nI b, pwG v (qtG v a b (nI w) g) s) else S
def nxB (v : EV) (s : Nat) (g : GS) (w a : Nat) : Nat → Nat → NxS → NxS
  | 0, _, S => S
  | k + 1, b, S => nxB v s g w a k (b + 1) (nxS v s g w a b S)
def nxA (v : EV) (s : Nat) (g : GS) (w n : Nat) : Nat → Nat → NxS → NxS
  | 0, _, S => S
  | k + 1, a, S => nxA v s g w n k (a + 1) (nxB v s g w a (n - (a + 1)) (a + 1) S)
def nxW (v : EV) (s : Nat) (g : GS) (n : Nat) : Nat → Nat → NxS → NxS
  | 0, _, S => S
  | k + 1, w, S => nxW v s g n k (w + 1) (nxA v s g w n n 0 S)
def nxO (v : EV) (x : Int32) (g : GS) : Int32 := if 0 ≤ x.toInt ∧ x.toInt < nE v then (if nE v < 2 then -2 else (nxW v x.toNatClampNeg g (nE v) 3 0 (-1, 0)).1) else -1
theorem nxS_1 {v : EV} {s w a b : Nat} {g : GS} {S : NxS} (h : S.1 = -1) : nxS v s g w a b S = ((((100 : Int32) * nI w) + ((10 : Int32) * nI a)) + nI b, pwG v (qtG v a b (nI w) g) s) := if_pos (Or.inl h)
theorem nxS_2 {v : EV} {s w a b : Nat} {g : GS} {S : NxS} (h : ¬ pwG v (qtG v a b (nI w) g) s ≤ S.2) : nxS v s g w a b S = ((((100 : Int32) * nI w) + ((10 : Int32) * nI a)) + nI b, pwG v (qtG v a b (nI w) g) s) := if_pos (Or.inr h)
theorem nxS_3 {v : EV} {s w a b : Nat} {g : GS} {S : NxS} (h1 : ¬ S.1 = -1) (h : pwG v (qtG v a b (nI w) g) s ≤ S.2) : nxS v s g w a b S = S := if_neg (fun z => z.elim h1 (fun q => q h))
section NXC
variable {ad : Nat → Nat} {d s : Nat} {m m0 : Wm} {g : GS} {v : EV}
/-- between two tries of the class -/
def ncI (v : EV) (g : GS) (m0 m : Wm) : Prop := WT m ∧ Fx (RS [2, 5, 14]) m0 m ∧ HC 26 m g ∧ HC 21 m g ∧ EC m v
def ncQ (m0 : Wm) (x : Int32) (r : Option Value) (m' : Wm) : Prop := WT m' ∧ Fx (RS [2, 5, 9, 14]) m0 m' ∧ r = some (.int x)
theorem nc_72 {Q : Option Value → Wm → Prop} {w a : Nat} {T : NxS} (hs : s < nE v) (hw : w ≤ 2) (ha : a < nE v)
    (K : ∀ m1, ncI v g m0 m1 → AW ad E0 μX11_next (d + 7) Q 54 [(0, .ref (ad 0)), (1, .int (nI s)), (2, .int T.1), (3, .int T.2), (4, .int (nI w)), (5, .int (nI (a + 1)))] [] m1) :
    ∀ (k b : Nat) (S : NxS) (m1 : Wm), a < b → b + k = nE v → nxB v s g w a k b S = T → ncI v g m0 m1 → AW ad E0 μX11_next (d + 7) Q 72 [(0, .ref (ad 0)), (1, .int (nI s)), (2, .int S.1), (3, .int S.2), (4, .int (nI w)), (5, .int (nI a)), (6, .int (nI b))] [] m1 := by
  intro k
  induction k with
  | zero =>
    intro b S m1 hab hk hT J
    have n8 := J.2.2.2.2.2.2.1
    have e33 := J.2.2.2.2.1
    obtain rfl : S = T := hT
    refine g_X11_next_72 (d := d + 6) ⟨fun _ => ?_, fun c => absurd (by rw [e33]; exact (nI_leI (by omega) (by omega)).mpr (by omega)) c⟩
    rw [nI_1]
    exact K m1 J
  | succ k ih =>
    intro b S m1 hab hk hT J
    have n8 := J.2.2.2.2.2.2.1
    have e33 := J.2.2.2.2.1
    obtain ⟨w1, f1, h26, h21, ec⟩ := J
    refine g_X11_next_72 (d := d + 6) ⟨fun c => absurd (by rw [e33] at c; exact (nI_leI (by omega) (by omega)).mp c) (by omega), fun _ => (powAfterC (d := d) w1 h26 h21 ec (s := s) (a := a) (e := b) (by omega) (by omega) (by omega) (by omega) (th_of hw)).to ?_⟩
    rintro _ m2 ⟨w2, f2, rfl, h2⟩
    have J2 : ncI v g m0 m2 := ⟨w2, f1.tr f2 (fun _ _ h => h), h2, h21.fx SS_21 f2 rfl, ec.fx f2 rfl⟩
    have G : nxS v s g w a b S = ((((100 : Int32) * nI w) + ((10 : Int32) * nI a)) + nI b, pwG v (qtG v a b (nI w) g) s) → AW ad E0 μX11_next (d + 7) Q 108 [(0, .ref (ad 0)), (1, .int (nI s)), (4, .int (nI w)), (5, .int (nI a)), (6, .int (nI b)), (7, .int (pwG v (qtG v a b (nI w) g) s))] [] m2 := fun e => by
      refine g_X11_next_108 (d := d + 6) ?_
      rw [nI_1]
      have := ih (b + 1) (nxS v s g w a b S) m2 (by omega) (by omega) hT J2
      rw [e] at this
      exact this
    refine ⟨_, rfl, fun c => G (nxS_1 c), fun c => ⟨fun c2 => ?_, fun c2 => G (nxS_2 c2)⟩⟩
    rw [nI_1]
    have := ih (b + 1) (nxS v s g w a b S) m2 (by omega) (by omega) hT J2
    rw [nxS_3 c c2] at this
    exact this
theorem nc_54 {Q : Option Value → Wm → Prop} {w : Nat} {T : NxS} (hs : s < nE v) (hw : w ≤ 2)
    (K : ∀ m1, ncI v g m0 m1 → AW ad E0 μX11_next (d + 7) Q 45 [(0, .ref (ad 0)), (1, .int (nI s)), (2, .int T.1), (3, .int T.2), (4, .int (nI (w + 1)))] [] m1) :
    ∀ (k a : Nat) (S : NxS) (m1 : Wm), a + k = nE v → nxA v s g w (nE v) k a S = T → ncI v g m0 m1 → AW ad E0 μX11_next (d + 7) Q 54 [(0, .ref (ad 0)), (1, .int (nI s)), (2, .int S.1), (3, .int S.2), (4, .int (nI w)), (5, .int (nI a))] [] m1 := by
  intro k
  induction k with
  | zero =>
    intro a S m1 hk hT J
    have n8 := J.2.2.2.2.2.2.1
    have e33 := J.2.2.2.2.1
    obtain rfl : S = T := hT
    refine g_X11_next_54 (d := d + 6) ⟨fun _ => ?_, fun c => absurd (by rw [e33]; exact (nI_leI (by omega) (by omega)).mpr (by omega)) c⟩
    rw [nI_1]
    exact K m1 J
  | succ k ih =>
    intro a S m1 hk hT J
    have n8 := J.2.2.2.2.2.2.1
    have e33 := J.2.2.2.2.1
    refine g_X11_next_54 (d := d + 6) ⟨fun c => absurd (by rw [e33] at c; exact (nI_leI (by omega) (by omega)).mp c) (by omega), fun _ => ?_⟩
    rw [nI_1]
    exact nc_72 hs hw (by omega) (fun m2 J2 => ih (a + 1) _ m2 (by omega) hT J2) (nE v - (a + 1)) (a + 1) S m1 (by omega) (by omega) rfl J
theorem nc_45 {T : NxS} (hs : s < nE v) : ∀ (k w : Nat) (S : NxS) (m1 : Wm), w + k = 3 → nxW v s g (nE v) k w S = T → ncI v g m0 m1 → AW ad E0 μX11_next (d + 7) (ncQ m0 T.1) 45 [(0, .ref (ad 0)), (1, .int (nI s)), (2, .int S.1), (3, .int S.2), (4, .int (nI w))] [] m1 := by
  intro k
  induction k with
  | zero =>
    intro w S m1 hk hT J
    obtain rfl : S = T := hT
    refine g_X11_next_45 (d := d + 6) ⟨fun _ => (s_X11_tell J.1).to ?_, fun c => absurd ((le_l 3 3 rfl (by decide) (by omega)).mpr (by omega)) c⟩
    rintro _ m2 ⟨w2, f2, rfl⟩
    exact ⟨rfl, w2, (Fx.tr Fx.rf J.2.1 (RS_sub rfl)).tr f2 (RS_sub rfl), rfl⟩
  | succ k ih =>
    intro w S m1 hk hT J
    exact g_X11_next_45 (d := d + 6) ⟨fun c => absurd ((le_l 3 3 rfl (by decide) (by omega)).mp c) (by omega), fun _ => nc_54 hs (by omega) (fun m2 J2 => ih (w + 1) _ m2 (by omega) hT J2) (nE v) 0 S m1 (by omega) rfl J⟩
theorem e_nextC {x1 : Int32} (w : WT m) (hc : HC 21 m g) (ec : EC m v) : Ct ad μX11_next (d + 7) [.ref (ad 0), .int x1] m (ncQ m (nxO v x1 g)) := by
  have n8 := ec.2.2.1
  refine v_X11_next (d := d + 6) ((hasC (d := d + 6) ec.1 n8).to ?_)
  rintro _ m1 ⟨eq, v1, rfl, y1, y2⟩
  obtain rfl := eq.symm
  refine ⟨v1, rfl, fun q => ?_, fun q => ⟨w, Fx.rf, ?_⟩⟩
  · have hI := y2 q
    obtain ⟨s, hs, rfl⟩ := hI.of
    refine ⟨fun c => (copyC (d := d + 5) w SS_26 SS_21 (Or.inl (by decide)) hc).to ?_, fun c => ⟨w, Fx.rf, ?_⟩⟩
    · rw [ec.1] at c
      have c := (le_l 2 2 rfl (by decide) (by omega)).mp c
      rintro _ m1 ⟨rfl, w1, f1, h1⟩
      have eo : nxO v (nI s) g = (nxW v s g (nE v) 3 0 (-1, 0)).1 := by
        unfold nxO
        rw [if_pos (inN_of hI), if_neg (by omega), nI_clamp (by omega)]
      rw [eo]
      exact ⟨rfl, nc_45 (d := d) hs 3 0 (-1, 0) m1 rfl rfl ⟨w1, Fx.tr Fx.rf f1 (RS_sub rfl), h1, hc.fx SS_21 f1 rfl, ec.fx f1 rfl⟩⟩
    · rw [ec.1] at c
      have c : ¬ 2 ≤ nE v := fun z => c ((le_l 2 2 rfl (by decide) (by omega)).mpr z)
      unfold nxO
      rw [if_pos (inN_of hI), if_pos (by omega)]
  · unfold nxO
    rw [if_neg (ninN_of (y1 q))]
end NXC
section NXM
variable {ad : Nat → Nat} {d s : Nat} {m m0 : Wm} {g : GS} {v : EV}
/-- between two tries of the model -/
def nmI (v : EV) (g : GS) (m0 m : Wm) : Prop := WT m ∧ Fx (RS [20, 22, 24, 26, 28, 34, 49]) m0 m ∧ HM (nE v) m g ∧ HL (nE v) 204 0 m g ∧ EM m v
def nmQ (v : EV) (g : GS) (m0 : Wm) (x : Int32) (r : Option Value) (m' : Wm) : Prop := WT m' ∧ Fx (RS [20, 22, 24, 26, 28, 34, 49]) m0 m' ∧ HM (nE v) m' g ∧ r = some (.int x)
theorem nm_66 {Q : Option Value → Wm → Prop} {w a : Nat} {T : NxS} (hs : s < nE v) (hw : w ≤ 2) (ha : a < nE v)
    (K : ∀ m1, nmI v g m0 m1 → AW ad E0 μX12_next (d + 171) Q 51 [(0, .ref (ad 187)), (1, .int (nI s)), (2, .int T.1), (3, .int T.2), (4, .int (nI w)), (5, .int (nI (a + 1)))] [] m1) :
    ∀ (k b : Nat) (S : NxS) (m1 : Wm), a < b → b + k = nE v → nxB v s g w a k b S = T → nmI v g m0 m1 → AW ad E0 μX12_next (d + 171) Q 66 [(0, .ref (ad 187)), (1, .int (nI s)), (2, .int S.1), (3, .int S.2), (4, .int (nI w)), (5, .int (nI a)), (6, .int (nI b))] [] m1 := by
  intro k
  induction k with
  | zero =>
    intro b S m1 hab hk hT J
    have em := J.2.2.2.2
    have n8 := em.2.2.1
    obtain rfl : S = T := hT
    refine g_X12_next_66 (d := d + 170) ⟨fun _ => ?_, fun c => absurd (by rw [em.1]; exact (nI_leI (by omega) (by omega)).mpr (by omega)) c⟩
    rw [nI_1]
    exact K m1 J
  | succ k ih =>
    intro b S m1 hab hk hT J
    obtain ⟨w1, f1, hm, hl, em⟩ := J
    have n8 := em.2.2.1
    refine g_X12_next_66 (d := d + 170) ⟨fun c => absurd (by rw [em.1] at c; exact (nI_leI (by omega) (by omega)).mp c) (by omega), fun _ => (goQuietM (d := d) w1 hm em hl rfl (a := a) (e := b) (by omega) (by omega) (by omega) (th_of hw)).to ?_⟩
    rintro _ m2 ⟨rfl, w2, f2, hm2⟩
    refine ⟨rfl, (powerM (d := d + 2) w2 hm2 (em.fx f2 rfl) hs).to ?_⟩
    rintro _ m3 ⟨w3, f3, rfl⟩
    have hl3 : HL (nE v) 204 0 m3 g := (hl.fx (ρ := 34) f2 (fun _ => rfl) rfl).fx (ρ := 34) f3 (fun _ => rfl) rfl
    refine ⟨_, rfl, (bringH (x := 0) (na := 57) rfl (by decide) (by decide) w3 hl3 (by decide)).to ?_⟩
    rintro _ m4 ⟨rfl, w4, f4, hm4⟩
    have J4 : nmI v g m0 m4 := ⟨w4, ((f1.tr f2 (RS_sub rfl)).tr f3 (RS_sub rfl)).tr f4 (RS_sub rfl), hm4, hl3.fx (ρ := 34) f4 (fun _ => rfl) rfl, ((em.fx f2 rfl).fx f3 rfl).fx f4 rfl⟩
    have G : nxS v s g w a b S = ((((100 : Int32) * nI w) + ((10 : Int32) * nI a)) + nI b, pwG v (qtG v a b (nI w) g) s) → AW ad E0 μX12_next (d + 171) Q 115 [(0, .ref (ad 187)), (1, .int (nI s)), (4, .int (nI w)), (5, .int (nI a)), (6, .int (nI b)), (7, .int (pwG v (qtG v a b (nI w) g) s))] [] m4 := fun e => by
      refine g_X12_next_115 (d := d + 170) ?_
      rw [nI_1]
      have := ih (b + 1) (nxS v s g w a b S) m4 (by omega) (by omega) hT J4
      rw [e] at this
      exact this
    refine ⟨rfl, fun c => G (nxS_1 c), fun c => ⟨fun c2 => G (nxS_2 (fun z => ?_)), fun c2 => ?_⟩⟩
    · have := z_lt c2
      have := z_le z
      omega
    · have c3 : pwG v (qtG v a b (nI w) g) s ≤ S.2 := (fa_le _ _).mpr (z_nlt c2)
      rw [nI_1]
      have := ih (b + 1) (nxS v s g w a b S) m4 (by omega) (by omega) hT J4
      rw [nxS_3 c c3] at this
      exact this
theorem nm_51 {Q : Option Value → Wm → Prop} {w : Nat} {T : NxS} (hs : s < nE v) (hw : w ≤ 2)
    (K : ∀ m1, nmI v g m0 m1 → AW ad E0 μX12_next (d + 171) Q 42 [(0, .ref (ad 187)), (1, .int (nI s)), (2, .int T.1), (3, .int T.2), (4, .int (nI (w + 1)))] [] m1) :
    ∀ (k a : Nat) (S : NxS) (m1 : Wm), a + k = nE v → nxA v s g w (nE v) k a S = T → nmI v g m0 m1 → AW ad E0 μX12_next (d + 171) Q 51 [(0, .ref (ad 187)), (1, .int (nI s)), (2, .int S.1), (3, .int S.2), (4, .int (nI w)), (5, .int (nI a))] [] m1 := by
  intro k
  induction k with
  | zero =>
    intro a S m1 hk hT J
    have em := J.2.2.2.2
    have n8 := em.2.2.1
    obtain rfl : S = T := hT
    refine g_X12_next_51 (d := d + 170) ⟨fun _ => ?_, fun c => absurd (by rw [em.1]; exact (nI_leI (by omega) (by omega)).mpr (by omega)) c⟩
    rw [nI_1]
    exact K m1 J
  | succ k ih =>
    intro a S m1 hk hT J
    have em := J.2.2.2.2
    have n8 := em.2.2.1
    refine g_X12_next_51 (d := d + 170) ⟨fun c => absurd (by rw [em.1] at c; exact (nI_leI (by omega) (by omega)).mp c) (by omega), fun _ => ?_⟩
    rw [nI_1]
    exact nm_66 hs hw (by omega) (fun m2 J2 => ih (a + 1) _ m2 (by omega) hT J2) (nE v - (a + 1)) (a + 1) S m1 (by omega) (by omega) rfl J
theorem nm_42 {T : NxS} (hs : s < nE v) : ∀ (k w : Nat) (S : NxS) (m1 : Wm), w + k = 3 → nxW v s g (nE v) k w S = T → nmI v g m0 m1 → AW ad E0 μX12_next (d + 171) (nmQ v g m0 T.1) 42 [(0, .ref (ad 187)), (1, .int (nI s)), (2, .int S.1), (3, .int S.2), (4, .int (nI w))] [] m1 := by
  intro k
  induction k with
  | zero =>
    intro w S m1 hk hT J
    obtain rfl : S = T := hT
    obtain ⟨w1, f1, hm1, hl1, em1⟩ := J
    have w2 : WT (uI m1 187 16 (0 : Int32)) := w1.t rfl (by decide) (by decide)
    have e16 : ((uI m1 187 16 (0 : Int32)).1 187 16).toInt = 0 := by
      rw [u_eq]
      rfl
    have hm2 : HM (nE v) (uI m1 187 16 (0 : Int32)) g := hm1
    refine g_X12_next_42 (d := d + 170) ⟨fun _ => (s_X12_tell w2 (by omega)).to ?_, fun c => absurd ((le_l 3 3 rfl (by decide) (by omega)).mpr (by omega)) c⟩
    rintro _ m3 ⟨w3, f3, rfl, -⟩
    exact ⟨rfl, w3, (f1.i rfl).tr f3 (RS_sub rfl), hm2.fx f3 rfl rfl, rfl⟩
  | succ k ih =>
    intro w S m1 hk hT J
    exact g_X12_next_42 (d := d + 170) ⟨fun c => absurd ((le_l 3 3 rfl (by decide) (by omega)).mp c) (by omega), fun _ => nm_51 hs (by omega) (fun m2 J2 => ih (w + 1) _ m2 (by omega) hT J2) (nE v) 0 S m1 (by omega) rfl J⟩
theorem e_nextM {x1 : Int32} (w : WT m) (hm : HM (nE v) m g) (em : EM m v) : Ct ad μX12_next (d + 171) [.ref (ad 187), .int x1] m (nmQ v g m (nxO v x1 g)) := by
  have n8 := em.2.2.1
  have w0 : WT (uI m 187 17 0) := w.n rfl
  have f0 : Fx (RS [20, 22, 24, 26, 28, 34, 49]) m (uI m 187 17 0) := Fx.rf.i rfl
  have hm0 : HM (nE v) (uI m 187 17 0) g := hm
  have em0 : EM (uI m 187 17 0) v := em
  refine v_X12_next (d := d + 170) ?_
  generalize uI m 187 17 0 = m1 at w0 f0 hm0 em0 ⊢
  refine (sideM (d := d + 169) em0.1 n8).to ?_
  rintro _ m2 ⟨eq, v1, rfl, y1, y2⟩
  obtain rfl := eq.symm
  refine ⟨v1, rfl, fun q => ?_, fun q => ⟨w0, f0, hm0, ?_⟩⟩
  · have hI := y2 q
    obtain ⟨s, hs, rfl⟩ := hI.of
    refine ⟨fun c => (layH (x := 0) (na := 57) (reg := 34) rfl (by decide) (by decide) (fun _ => rfl) (fun _ => rfl) w0 hm0 n8 (by decide)).to ?_, fun c => ⟨w0, f0, hm0, ?_⟩⟩
    · rw [em0.1] at c
      have c := (le_l 2 2 rfl (by decide) (by omega)).mp c
      rintro _ m3 ⟨rfl, w3, f3, hl3, -, -⟩
      have eo : nxO v (nI s) g = (nxW v s g (nE v) 3 0 (-1, 0)).1 := by
        unfold nxO
        rw [if_pos (inN_of hI), if_neg (by omega), nI_clamp (by omega)]
      rw [eo]
      exact ⟨rfl, nm_42 (d := d) hs 3 0 (-1, 0) m3 rfl rfl ⟨w3, f0.tr f3 (RS_sub rfl), hm0.fx f3 rfl rfl, hl3, em0.fx f3 rfl⟩⟩
    · rw [em0.1] at c
      have c : ¬ 2 ≤ nE v := fun z => c ((le_l 2 2 rfl (by decide) (by omega)).mpr z)
      unfold nxO
      rw [if_pos (inN_of hI), if_pos (by omega)]
  · unfold nxO
    rw [if_neg (ninN_of (y1 q))]
theorem og_next (c : Nat) (x1 : Int32) : Both ad d μX11_next μX12_next [.int x1] (InvK (KX KG c)) (InvK (KX KG (c + 1))) := fun m I => by
  obtain ⟨w, I1, ⟨g, v, H, kd⟩, kb⟩ := I
  refine (e_nextC (d := d + 293) (x1 := x1) w kd.1 kd.2.2.1).to ?_
  rintro _ m1 ⟨w1, f1, rfl⟩
  have kd1 := kd.fx f1 rfl
  refine ⟨_, rfl, (e_nextM (d := d + 129) (x1 := x1) w1 kd1.2.1 kd1.2.2.2.1).to ?_⟩
  rintro _ m2 ⟨w2, f2, hm2, rfl⟩
  exact ⟨rfl, w2, I1.f2 f1 f2 rfl rfl, ⟨g, v, H, kd1.hms f2 rfl hm2⟩, KB.fd c f1 f2 kb rfl rfl⟩
end NXM
/-! WHAT HAPPENS AHEAD: rounds on a copy, what all sides know; a plan, or none -/
def PlO (v : EV) (m : Wm) : Option PLN → Prop
  | none => m.1 187 11 = 0 ∧ ∃ P Q, PRF m P Q ∧ m.1 P 5 = 0
  | some p => PlnOK v p ∧ PlnC m p ∧ PlnM m p
/-- the league behind n rounds, by no luck -/
def ahG (v : EV) (p : PLN) (n nr : Nat) (g : GS) : GS := (rdsR false false v p n nr (g, [], 0, 0)).1
def toF (f : Nat → Int32) (ar : Nat) : Nat → Int32
  | 0 => 0
  | k + 1 => toF f ar k + smF f (4 * k) ar
def totG (v : EV) (g : GS) : Int32 := toF g.1 (aE v) (nE v)
section AHP
variable {v : EV} {p : PLN} {m m' : Wm} {S : List Nat} {op : Option PLN} {g g' : GS} {a b : Nat} {th : Int32} {lk : Bool}
theorem plO_of (h : PlR m) (ec : EC m v) : ∃ op, PlO v m op := by
  by_cases h0 : m.1 187 11 = 0
  · obtain ⟨P, Q, hR, n, R, gN, sn, x1, x2, x3, x4, -⟩ := h
    exact ⟨none, h0, P, Q, hR, x3.trans (x4.symm.trans h0)⟩
  · obtain ⟨p, hp⟩ := pln_of h ec h0
    exact ⟨some p, hp⟩
theorem PlO.fx (h : PlO v m op) (f : Fx (RS S) m m') (e7 : S.elem 7 = false) (e54 : S.elem 54 = false) (e25 : S.elem 25 = false) (e55 : S.elem 55 = false) : PlO v m' op := by
  cases op with
  | none =>
    obtain ⟨h1, P, Q, hR, h2⟩ := h
    have := hR.2.2
    exact ⟨(f.at (nRS (ρ := 25) e25 rfl)).trans h1, P, Q, hR.fx f e54, (f.at (n7 e7 5 (by omega) (by omega))).trans h2⟩
  | some p => exact ⟨h.1, h.2.1.fx f e7 e54, h.2.2.fx f e25 e55⟩
theorem PlnOK.ne (h : PlnOK v p) : ¬ nI (rdP p) = 0 := fun z => by
  have h1 := h.1
  have h2 := h.2.1
  have := (nI_eq (a := rdP p) (b := 0) (by omega) (by omega)).mp z
  omega
theorem PlO.c (h : PlO v m op) : ∃ P, m.2.2 0 9 = some P ∧ Pl P ∧ (m.1 P 5 = 0 ↔ op = none) := by
  cases op with
  | none =>
    obtain ⟨h1, P, Q, hR, h2⟩ := h
    obtain ⟨q1, q2, -⟩ := hR.pl
    exact ⟨P, q1, q2, fun _ => rfl, fun _ => h2⟩
  | some p =>
    obtain ⟨hp, ⟨P, Q, hR, h2, -⟩, -⟩ := h
    obtain ⟨q1, q2, -⟩ := hR.pl
    exact ⟨P, q1, q2, fun z => absurd (h2.symm.trans z) hp.ne, fun z => by cases z⟩
theorem PlO.mm (h : PlO v m op) : m.1 187 11 = 0 ↔ op = none := by
  cases op with
  | none => exact ⟨fun _ => rfl, fun _ => h.1⟩
  | some p => exact ⟨fun z => absurd (h.2.2.1.symm.trans z) h.1.ne, fun z => by cases z⟩
theorem run_1 {sv sv' : Bool} : ∀ (k j : Nat) (T T' : RSt), T.1 = T'.1 → (runR lk sv v p k j T).1 = (runR lk sv' v p k j T').1 := by
  intro k
  induction k with
  | zero => intro j T T' h; exact h
  | succ k ih =>
    intro j T T' h
    refine ih (j + 1) (stepR lk sv v p j T) (stepR lk sv' v p j T') ?_
    show goG lk v (f1P p j) (f2P p j) (thP p j) T.1 = goG lk v (f1P p j) (f2P p j) (thP p j) T'.1
    rw [h]
theorem rds_1 {sv sv' : Bool} : ∀ (k ρ : Nat) (T T' : RSt), T.1 = T'.1 → (rdsR lk sv v p k ρ T).1 = (rdsR lk sv' v p k ρ T').1 := by
  intro k
  induction k with
  | zero => intro ρ T T' h; exact h
  | succ k ih => intro ρ T T' h; exact ih _ _ _ (run_1 _ _ _ _ h)
theorem go_E (h : GE g g') : GE (stlG true v a b (wnG v g a b th) g) (goG false v a b th g') := by
  have nb : ¬ byG false v th := fun z => absurd z.1 (by decide)
  unfold goG wonG drwG
  rw [if_neg nb, if_neg nb, wnG_E h]
  exact stlG_E ⟨h.1, h.2.1, h.2.2⟩
theorem toF_ch {f f' : Nat → Int32} {ar : Nat} (ha : ar ≤ 4) : ∀ n, (∀ k, k < 4 * n → f k = f' k) → toF f ar n = toF f' ar n := by
  intro n
  induction n with
  | zero => intro _; rfl
  | succ n ih =>
    intro h
    show toF f ar n + smF f (4 * n) ar = toF f' ar n + smF f' (4 * n) ar
    rw [ih (fun k hk => h k (by omega)), smF_ch ar (fun k h1 h2 => h k (by omega))]
theorem totG_E (h : GE g g') : totG v g = totG v g' := by
  unfold totG
  rw [h.1]
end AHP
section AHC
variable {ad : Nat → Nat} {d b ρ : Nat} {m m0 : Wm} {g : GS} {v : EV} {p : PLN}
def ahI (m0 : Wm) (S : RSt) (m : Wm) : Prop := WT m ∧ Fx (RS [2, 5, 14]) m0 m ∧ ∃ g', GE g' S.1 ∧ HC 26 m g'
set_option maxHeartbeats 1000000 in
theorem ah_45 (hp : PlnOK v p) {x1 x3 : Int32} {ρ : Nat} (hρ : ρ < rdP p) {Q : Option Value → Wm → Prop} (T : RSt) (hE : EC m0 v) (hP : PlnC m0 p)
    (K : ∀ m1, ahI m0 T m1 → AW ad E0 μX11_playAhead (d + 5) Q 18 [(0, .ref (ad 0)), (1, .int x1), (2, .int (nI (nxP p ρ))), (3, .int (x3 + (1 : Int32)))] [] m1) :
    ∀ (n j : Nat) (S : RSt) (m : Wm), j + n = enP p ρ → ahI m0 S m → T = runR false false v p n j S →
      AW ad E0 μX11_playAhead (d + 5) Q 45 [(0, .ref (ad 0)), (1, .int x1), (2, .int (nI ρ)), (3, .int x3), (4, .int (nI (enP p ρ))), (5, .int (nI j))] [] m := by
  intro n
  have hen := hp.en hρ
  have hG : GR 5 := Or.inr (Or.inr (Or.inl rfl))
  obtain ⟨a1, a2, a3, a4, a5⟩ := hp
  induction n with
  | zero =>
    intro j S m hj R hT
    obtain ⟨P, Q', hR, p1, p2, p3, p4⟩ := hP.fx R.2.1 rfl rfl
    obtain ⟨q1, q2, q3⟩ := hR.pl
    refine g_X11_playAhead_45 (d := d + 4) ⟨fun _ => ⟨P, q1, q2, ?_⟩, fun c => absurd ((nI_leI (by omega) (by omega)).mpr (by omega)) c⟩
    refine (afterC (d := d + 4) (p := p) q2 p1 a2 (by omega)).to ?_
    rintro _ m2 ⟨eq, rfl⟩
    obtain rfl := eq.symm
    have hT' : T = S := hT
    rw [← hT'] at R
    exact ⟨_, rfl, K _ R⟩
  | succ n ih =>
    intro j S m hj R hT
    obtain ⟨w, f, g', hg, h26⟩ := R
    obtain ⟨P, Q', hR, p1, p2, p3, p4⟩ := hP.fx f rfl rfl
    have hPQ := hR.2.2
    obtain ⟨q1, q2, q3⟩ := hR.pl
    obtain ⟨b1, b2, b3⟩ := p3 j (by omega)
    obtain ⟨c1, c2, c3, c4⟩ := a5 j (by omega)
    have E1 := hE.fx f rfl
    have n8 := E1.2.2.1
    refine g_X11_playAhead_45 (d := d + 4) ⟨fun c => absurd ((nI_leI (by omega) (by omega)).mp c) (by omega), fun _ => ?_⟩
    refine ⟨P, q1, q2, nat_in (by omega) (by decide), P, q1, q2, nat_in (by omega) (by decide), P, q1, q2, nat_in (by omega) (by decide), ?_⟩
    rw [nI_clamp (by omega), b1, b2, b3]
    refine (resultC (d := d) SS_26 hG w h26 E1 (by omega) (by omega) c4).to ?_
    rintro _ m2 ⟨w2, f2, rfl⟩
    obtain ⟨r1, r2, -⟩ := (hR.fx f2 rfl).pl
    have e1 : m2.1 (P + 1) j = nI (f1P p j) := (f2.at (n7 rfl j (by omega) (by omega))).trans b1
    have e2 : m2.1 (P + 2) j = nI (f2P p j) := (f2.at (n7 rfl j (by omega) (by omega))).trans b2
    refine ⟨_, rfl, P, r1, r2, nat_in (by omega) (by decide), P, r1, r2, nat_in (by omega) (by decide), ?_⟩
    rw [e1, e2, nI_1]
    refine (settleC (d := d + 1) (cn := true) SS_26 hG w2 (h26.fx SS_26 f2 rfl) (E1.fx f2 rfl) (by omega) (by omega) c3 (by decide)).to ?_
    rintro _ m3 ⟨rfl, w3, f3, h3⟩
    exact ⟨rfl, ih (j + 1) (stepR false false v p j S) m3 (by omega) ⟨w3, (f.tr f2 (RS_sub rfl)).tr f3 (RS_sub rfl), _, go_E hg, h3⟩ hT⟩
theorem ah_18 (hp : PlnOK v p) {n : Nat} (hn : n ≤ 200) (T : RSt) (hE : EC m0 v) (hP : PlnC m0 p) :
    ∀ (k i ρ : Nat) (S : RSt) (m : Wm), i + k = n → ρ < rdP p → ahI m0 S m → T = rdsR false false v p k ρ S →
      AW ad E0 μX11_playAhead (d + 5) (fun r m' => r = none ∧ ahI m0 T m') 18 [(0, .ref (ad 0)), (1, .int (nI n)), (2, .int (nI ρ)), (3, .int (nI i))] [] m := by
  intro k
  have hp2 := hp.2.1
  induction k with
  | zero =>
    intro i ρ S m hi hρ R hT
    have hT' : T = S := hT
    rw [← hT'] at R
    exact g_X11_playAhead_18 (d := d + 4) ⟨fun _ => ⟨rfl, R⟩, fun c => absurd ((nI_leI (by omega) (by omega)).mpr (by omega)) c⟩
  | succ k ih =>
    intro i ρ S m hi hρ R hT
    obtain ⟨P, Q', hR, p1, p2, p3, p4⟩ := hP.fx R.2.1 rfl rfl
    obtain ⟨q1, q2, q3⟩ := hR.pl
    have hen := hp.en hρ
    refine g_X11_playAhead_18 (d := d + 4) ⟨fun c => absurd ((nI_leI (by omega) (by omega)).mp c) (by omega), fun _ => ⟨P, q1, q2, ?_⟩⟩
    rw [nI_1]
    refine (beginC (d := d + 4) (p := p) q2 p1 p2 p4 hp2 (by omega)).to ?_
    rintro _ m2 ⟨eq, rfl⟩
    obtain rfl := eq.symm
    refine ⟨_, rfl, P, q1, q2, ?_⟩
    refine (beginC (d := d + 4) (p := p) q2 p1 p2 p4 hp2 (by omega)).to ?_
    rintro _ m2 ⟨eq, rfl⟩
    obtain rfl := eq.symm
    refine ⟨_, rfl, ?_⟩
    rw [if_pos hρ]
    exact ah_45 (d := d) (x1 := nI n) (x3 := nI i) hp hρ (runR false false v p (enP p ρ - snP p ρ) (snP p ρ) S) hE hP (fun m1 R1 => by
      rw [nI_1]
      exact ih (i + 1) (nxP p ρ) _ m1 (by omega) (nxP_lt hp) R1 hT) (enP p ρ - snP p ρ) (snP p ρ) S m (by omega) R rfl
theorem aheadC (hp : PlnOK v p) {n nr : Nat} (hn : n ≤ 200) (hnr : nr < rdP p) (w : WT m) (hc : HC 21 m g) (hE : EC m v) (hP : PlnC m p) (h11 : m.1 0 11 = nI nr) : Ct ad μX11_playAhead (d + 5) [.ref (ad 0), .int (nI n)] m (fun r m' => r = none ∧ WT m' ∧ Fx (RS [2, 5, 14]) m m' ∧ ∃ g', GE g' (ahG v p n nr g) ∧ HC 26 m' g') := by
  refine v_X11_playAhead (d := d + 4) ((copyC (d := d + 3) w SS_26 SS_21 (Or.inl (by decide)) hc).to ?_)
  rintro _ m1 ⟨rfl, w1, f1, h1⟩
  have e11 : m1.1 0 11 = nI nr := (f1.at (nRS (ρ := 44) rfl rfl)).trans h11
  rw [e11]
  exact ⟨rfl, ah_18 (d := d) (m0 := m) hp hn (rdsR false false v p n nr (g, [], 0, 0)) hE hP n 0 nr (g, [], 0, 0) m1 (by omega) hnr ⟨w1, Fx.tr Fx.rf f1 (RS_sub rfl), g, ⟨rfl, rfl, rfl⟩, h1⟩ rfl⟩
theorem totC (hb : SS b ρ) (h : HC b m g) (hE : EC m v) : Ct ad μX1_total (d + 2) [.ref (ad 3), .ref (ad b)] m (fun r m' => m' = m ∧ r = some (.int (totG v g))) := by
  have n8 := hE.2.2.1
  have a4 := hE.2.2.2.1
  have L : ∀ (j k : Nat), k + j = nE v → AW ad E0 μX1_total (d + 2) (fun r m' => m' = m ∧ r = some (.int (totG v g))) 4 [(0, .ref (ad 3)), (1, .ref (ad b)), (2, .int (toF g.1 (aE v) k)), (3, .int (nI k))] [] m := by
    intro j
    induction j with
    | zero =>
      intro k hk
      obtain rfl : k = nE v := hk
      exact g_X1_total_4 (d := d + 1) hb.1 ⟨fun _ => ⟨rfl, rfl⟩, fun c => absurd (by rw [hE.1]; exact (nI_leI (a := nE v) (b := nE v) (by omega) (by omega)).mpr (Nat.le_refl _)) c⟩
    | succ j ih =>
      intro k hk
      refine g_X1_total_4 (d := d + 1) hb.1 ⟨fun c => absurd (by rw [hE.1] at c; exact (nI_leI (a := nE v) (b := k) (by omega) (by omega)).mp c) (by omega), fun _ => ?_⟩
      rw [hE.2.1, nI_1]
      refine (sumC (d := d) hb h (s := k) (by omega) a4).to ?_
      rintro _ m1 ⟨eq, rfl⟩
      obtain rfl := eq.symm
      exact ⟨_, rfl, ih (k + 1) (by omega)⟩
  exact v_X1_total (d := d + 1) hb.1 (L (nE v) 0 (by omega))
theorem totM (h : HM (nE v) m g) (hE : EM m v) : Ct ad μX12_sumOfAll (d + 1) [.ref (ad 187)] m (fun r m' => m' = m ∧ r = some (.int (totG v g))) := by
  have n8 := hE.2.2.1
  have a4 := hE.2.2.2.1
  have L : ∀ (j k : Nat), k + j = nE v → AW ad E0 μX12_sumOfAll (d + 1) (fun r m' => m' = m ∧ r = some (.int (totG v g))) 4 [(0, .ref (ad 187)), (1, .int (toF g.1 (aE v) k)), (2, .int (nI k))] [] m := by
    intro j
    induction j with
    | zero =>
      intro k hk
      obtain rfl : k = nE v := hk
      exact g_X12_sumOfAll_4 (d := d) ⟨fun _ => ⟨rfl, rfl⟩, fun c => absurd (by rw [hE.1]; exact (nI_leI (a := nE v) (b := nE v) (by omega) (by omega)).mpr (Nat.le_refl _)) c⟩
    | succ j ih =>
      intro k hk
      refine g_X12_sumOfAll_4 (d := d) ⟨fun c => absurd (by rw [hE.1] at c; exact (nI_leI (a := nE v) (b := k) (by omega) (by omega)).mp c) (by omega), fun _ => (sumOf_ok hE.2.1 a4 (by omega)).to ?_⟩
      rintro _ m1 ⟨eq, rfl⟩
      obtain rfl := eq.symm
      rw [nI_1]
      have e : smF (m.1 188) (4 * k) (aE v) = smF g.1 (4 * k) (aE v) := smF_ch _ (fun i h1 h2 => h.1 i (by omega))
      rw [e]
      exact ⟨_, rfl, ih (k + 1) (by omega)⟩
  exact v_X12_sumOfAll (d := d) (L (nE v) 0 (by omega))
end AHC
/-! CALL: pays, with its answers -/
def payA (v : EV) (op : Option PLN) (nr : Nat) (x1 x2 : Int32) (g : GS) : Int32 :=
  match op with
  | none => -1
  | some p => if 0 ≤ x1.toInt ∧ x1.toInt < nE v then (if 0 ≤ x2.toInt ∧ x2.toInt ≤ 50 then (ahG v p x2.toNatClampNeg nr g).2.1 x1.toNatClampNeg - (ahG (setI v x1.toNatClampNeg (!(iE v x1.toNatClampNeg))) p x2.toNatClampNeg nr g).2.1 x1.toNatClampNeg else -1) else -1
def lwV (v : EV) (p : PLN) (n nr : Nat) (g : GS) (q : Nat) : Int32 := totG v (ahG (setL v 0 (nI q)) p n nr g)
def lwA (v : EV) (op : Option PLN) (nr : Nat) (x1 : Int32) (g : GS) : Int32 :=
  match op with
  | none => -1
  | some p => if 0 ≤ x1.toInt ∧ x1.toInt ≤ 50 then nI (bsF (lwV v p x1.toNatClampNeg nr g) 4) else -1
section PAY
variable {ad : Nat → Nat} {d nr : Nat} {m m' m1 m0 : Wm} {g : GS} {v : EV} {H : List GS} {p : PLN} {S : List Nat} {op : Option PLN} {x1 x2 : Int32}
theorem payA_1 (h : ¬ (0 ≤ x1.toInt ∧ x1.toInt < nE v)) : payA v op nr x1 x2 g = -1 := by
  cases op with
  | none => rfl
  | some p => exact if_neg h
theorem payA_2 (h : ¬ (0 ≤ x2.toInt ∧ x2.toInt ≤ 50)) : payA v op nr x1 x2 g = -1 := by
  cases op with
  | none => rfl
  | some p =>
    unfold payA
    dsimp only
    rw [if_neg h]
    split <;> rfl
theorem payA_3 (h : op = none) : payA v op nr x1 x2 g = -1 := by
  subst h
  rfl
theorem payA_4 {s k : Nat} (hs : s < nE v) (h8 : nE v ≤ 8) (hk : k ≤ 50) : payA v (some p) nr (nI s) (nI k) g = (ahG v p k nr g).2.1 s - (ahG (setI v s (!(iE v s))) p k nr g).2.1 s := by
  have ts : (nI s).toInt = s := nI_toInt (by omega)
  have tk : (nI k).toInt = k := nI_toInt (by omega)
  unfold payA
  dsimp only
  rw [if_pos (by omega), if_pos (by omega), nI_clamp (by omega), nI_clamp (by omega)]
theorem ill_xor {il : Nat → Bool} {s : Nat} (h : illC m il) (hs : s < 8) : ∀ j, j < 8 → bt ((m.1 3 5) ^^^ ((1 : Int32) <<< (nI s &&& 31))) j = updB il s (!(il s)) j := fun j hj => by
  rw [b_xor, bt_1shl (by omega) (by omega), h j hj]
  unfold updB
  by_cases q : j = s
  · rw [if_pos q, decide_eq_true q, q]; cases il s <;> rfl
  · rw [if_neg q, decide_eq_false q]; cases il j <;> rfl
theorem e_paysC (w : WT m) (hc : HC 21 m g) (ec : EC m v) (hO : PlO v m op) (h11 : m.1 0 11 = nI nr) (hnr : ∀ p, op = some p → nr < rdP p) : Ct ad μX11_pays (d + 6) [.ref (ad 0), .int x1, .int x2] m (fun r m' => WT m' ∧ Fx (RS [2, 5, 9, 14, 42]) m m' ∧ r = some (.int (payA v op nr x1 x2 g)) ∧ m'.1 3 5 = m.1 3 5) := by
  have n8 := ec.2.2.1
  have nn : payA v op nr x1 x2 g = -1 → WT m ∧ Fx (RS [2, 5, 9, 14, 42]) m m ∧ some (Value.int (-1)) = some (.int (payA v op nr x1 x2 g)) ∧ m.1 3 5 = m.1 3 5 := fun e => ⟨w, Fx.rf, by rw [e], rfl⟩
  refine v_X11_pays (d := d + 5) ((hasC ec.1 n8).to ?_)
  rintro _ m1 ⟨eq, v1, rfl, y1, y2⟩
  obtain rfl := eq.symm
  obtain ⟨P, q1, q2, q3⟩ := hO.c
  refine ⟨v1, rfl, fun q => nn (payA_1 (ninN_of (y1 q))), fun q => ⟨fun c => nn (payA_2 (fun z => ?_)), fun c0 => ⟨fun c => nn (payA_2 (fun z => ?_)), fun c50 => ⟨P, q1, q2, fun ne => ?_, fun e => nn (payA_3 (q3.mp e))⟩⟩⟩⟩
  · have := y_ltr (n := 0) rfl c; omega
  · have := y_ltl (n := 50) rfl c; omega
  have k0 := y_nltr (n := 0) rfl c0
  have k50 := y_nltl (n := 50) rfl c50
  obtain ⟨s, hs, rfl⟩ := (y2 q).of
  obtain ⟨k, hk, rfl⟩ := zn_of k0
  rw [nI_toInt hk] at k50
  cases op with
  | none => exact absurd (q3.mpr rfl) ne
  | some p =>
    obtain ⟨hp, hpC, -⟩ := hO
    have hn := hnr p rfl
    have V : vp_in (nI s) 8 := nat_in (by omega) (by decide)
    rw [payA_4 hs n8 (by omega)]
    refine (aheadC (d := d) hp (n := k) (by omega) hn w hc ec hpC h11).to ?_
    rintro _ m4 ⟨rfl, w4, f4, g4, hg4, h4⟩
    have a35 : m4.1 3 5 = m.1 3 5 := f4.at (nRS (ρ := 42) rfl rfl)
    have f5 : Fx (RS [42]) m4 (uI m4 3 5 ((m4.1 3 5) ^^^ ((1 : Int32) <<< (nI s &&& 31)))) := Fx.rf.i rfl
    have ec4 : EC m4 v := ec.fx f4 rfl
    have ec5 : EC (uI m4 3 5 ((m4.1 3 5) ^^^ ((1 : Int32) <<< (nI s &&& 31)))) (setI v s (!(iE v s))) := ec4.il hs (ill_xor ec4.2.2.2.2.2.1.1 (by omega))
    have w5 : WT (uI m4 3 5 ((m4.1 3 5) ^^^ ((1 : Int32) <<< (nI s &&& 31)))) := w4.n rfl
    refine ⟨rfl, V, (aheadC (d := d) (v := setI v s (!(iE v s))) (p := p) hp (n := k) (by omega) hn w5 ((hc.fx SS_21 f4 rfl).fx SS_21 f5 rfl) ec5 ((hpC.fx f4 rfl rfl).fx f5 rfl rfl) ((f5.at (nRS (ρ := 44) rfl rfl)).trans ((f4.at (nRS (ρ := 44) rfl rfl)).trans h11))).to ?_⟩
    rintro _ m5 ⟨rfl, w6, f6, g6, hg6, h6⟩
    have b35 : m5.1 3 5 = (m.1 3 5) ^^^ ((1 : Int32) <<< (nI s &&& 31)) := by
      rw [f6.at (a := 3) (k := 5) (nRS (ρ := 42) rfl rfl), u_eq, a35]
    have w7 : WT (uI m5 3 5 ((m5.1 3 5) ^^^ ((1 : Int32) <<< (nI s &&& 31)))) := w6.n rfl
    have F : Fx (RS [2, 5, 9, 14, 42]) m (uI m5 3 5 ((m5.1 3 5) ^^^ ((1 : Int32) <<< (nI s &&& 31)))) := (((Fx.tr Fx.rf f4 (RS_sub rfl)).i rfl).tr f6 (RS_sub rfl)).i rfl
    refine ⟨rfl, V, (s_X11_tell_ w7).to ?_⟩
    rintro _ m6 ⟨w8, f8, rfl⟩
    have e1 : m4.1 28 s = (ahG v p k nr g).2.1 s := (h4.2.1 s (by omega)).trans (congrFun hg4.2.1 s)
    have e2 : m6.1 28 s = (ahG (setI v s (!(iE v s))) p k nr g).2.1 s := (f8.at (nRS (ρ := 5) rfl rfl)).trans ((u_ne (by omega)).trans ((h6.2.1 s (by omega)).trans (congrFun hg6.2.1 s)))
    refine ⟨rfl, V, w8, F.tr f8 (RS_sub rfl), ?_, ?_⟩
    · rw [nI_clamp (by omega), e1, e2]
    · rw [f8.at (a := 3) (k := 5) (nRS (ρ := 42) rfl rfl), u_eq, b35, xor2]
theorem pbM {s k nr : Nat} (hp : PlnOK v p) (hk : k ≤ 50) (hnr : nr < rdP p) (w : WT m) (hm : HM (nE v) m g) (um : UnM (nE v) m H) (hl : H.length ≤ 20) (em : EM m v) (hP : PlnM m p) (h12 : m.1 187 12 = nI nr) (hL : HL (nE v) 202 0 m g) (hs : s < nE v) (h8 : nE v ≤ 8) :
    Ct ad μX12_pointsBehind (d + 172) [.ref (ad 187), .int (nI s), .int (nI k)] m (fun r m' => WT m' ∧ Fx (RS [22, 24, 28, 29, 31, 49]) m m' ∧ HM (nE v) m' g ∧ UnM (nE v) m' H ∧ HL (nE v) 202 0 m' g ∧ r = some (.int ((ahG v p k nr g).2.1 s))) := by
  refine v_X12_pointsBehind (d := d + 171) ?_
  rw [h12]
  refine (goRoundsM (d := d) (lk := false) (sv := false) (x3 := 0) (x4 := 0) hp (by decide) (by decide) (by omega) hnr w hm um hl em hP).to ?_
  rintro _ m1 ⟨rfl, w1, f1, hm1, um1, -⟩
  rw [rds_sv] at um1
  have um2 : UnM (nE v) m1 H := um1
  have hL1 : HL (nE v) 202 0 m1 g := hL.fx (ρ := 30) f1 (fun _ => rfl) rfl
  have e1 : (rdsR false false v p k nr (g, H, 0, 0)).1 = ahG v p k nr g := rds_1 _ _ _ _ rfl
  have e2 : m1.1 190 s = (ahG v p k nr g).2.1 s := by
    rw [hm1.2.1 s hs, e1]
  refine ⟨rfl, nat_in (by omega) (by decide), (bringH (x := 0) (na := 57) rfl (by decide) (by decide) w1 hL1 (by decide)).to ?_⟩
  rintro _ m2 ⟨rfl, w2, f2, hm2⟩
  rw [nI_clamp (by omega), e2]
  exact ⟨rfl, w2, f1.tr f2 (RS_sub rfl), hm2, um2.fx f2 rfl, hL1.fx (ρ := 30) f2 (fun _ => rfl) rfl, rfl⟩
/-- what the model's league is behind a call that gave it back -/
def gbQ (B : List Nat) (m : Wm) (g : GS) (v : EV) (H : List GS) (z : Int32) (r : Option Value) (m' : Wm) : Prop := r = some (.int z) ∧ WT m' ∧ Fx (RS B) m m' ∧ HM (nE v) m' g ∧ UnM (nE v) m' H ∧ EM m' v
set_option maxHeartbeats 1000000 in
theorem py_69 {s k nr : Nat} {b : Bool} {z3 : Int32} (hp : PlnOK v p) (hk : k ≤ 50) (hnr : nr < rdP p) (hs : s < nE v) (h8 : nE v ≤ 8) (hb : iE v s = b) (w : WT m) (f : Fx (RS [20, 22, 24, 26, 28, 29, 30, 31, 46, 49]) m1 m) (hm : HM (nE v) m g) (um : UnM (nE v) m H) (hl : H.length ≤ 20) (em : EM m v) (hP : PlnM m p) (h12 : m.1 187 12 = nI nr) (hL : HL (nE v) 202 0 m g) :
    AW ad E0 μX12_pays (d + 173) (gbQ [20, 22, 24, 26, 28, 29, 30, 31, 46, 49] m1 g v H (z3 - (ahG (setI v s (!b)) p k nr g).2.1 s)) 69 [(0, .ref (ad 187)), (1, .int (nI s)), (2, .int (nI k)), (3, .int z3)] [.int (if b = true then 0 else 1), .int (nI s), .ref (ad 189)] m := by
  have V : vp_in (nI s) 8 := nat_in (by omega) (by decide)
  have hv : vp_nar .boolean (if b = true then 0 else 1) = (if (!b) = true then 1 else 0) := by cases b <;> rfl
  refine g_X12_pays_69 (d := d + 172) (ne2 := 8) ly_189 ⟨V, ?_⟩
  rw [nI_clamp (by omega), hv]
  have w7 : WT (uI m 189 s (if (!b) = true then 1 else 0)) := w.n rfl
  have f7 : Fx (RS [46]) m (uI m 189 s (if (!b) = true then 1 else 0)) := Fx.rf.i rfl
  have em7 : EM (uI m 189 s (if (!b) = true then 1 else 0)) (setI v s (!b)) := em.il hs
  refine (pbM (d := d) (v := setI v s (!b)) (p := p) hp hk hnr w7 (hm.fx f7 rfl rfl) (um.fx f7 rfl) hl em7 (hP.fx f7 rfl rfl) ((f7.at (nRS (ρ := 52) rfl rfl)).trans h12) (hL.fx (ρ := 30) f7 (fun _ => rfl) rfl) hs h8).to ?_
  rintro _ m8 ⟨w8, f8, hm8, um8, hL8, rfl⟩
  generalize (ahG (setI v s (!b)) p k nr g).2.1 s = z4
  have e189 : ∀ j, m8.1 189 j = if j = s then (if (!b) = true then 1 else 0) else m.1 189 j := fun j => (f8.at (nRS (ρ := 46) rfl rfl)).trans (by
    by_cases q : j = s
    · rw [q, u_eq, if_pos rfl]
    · rw [u_ne (fun z => q z.2), if_neg q])
  have fin : ∀ y : Int32, vp_nar .boolean y = (if b = true then 1 else 0) → AW ad E0 μX12_pays (d + 173) (gbQ [20, 22, 24, 26, 28, 29, 30, 31, 46, 49] m1 g v H (z3 - z4)) 97 [(0, .ref (ad 187)), (3, .int z3), (4, .int z4)] [.int y, .int (nI s), .ref (ad 189)] m8 := fun y hy => by
    refine g_X12_pays_97 (d := d + 172) (ne2 := 8) ly_189 ⟨V, ?_⟩
    rw [nI_clamp (by omega), hy]
    have w9 : WT (uI (uI m8 189 s (if b = true then 1 else 0)) 187 16 (0 : Int32)) := (w8.n rfl).t rfl (by decide) (by decide)
    have f9 : Fx (RS [26, 46]) m8 (uI (uI m8 189 s (if b = true then 1 else 0)) 187 16 (0 : Int32)) := Fx.i (Fx.i Fx.rf rfl) rfl
    have e16 : ((uI (uI m8 189 s (if b = true then 1 else 0)) 187 16 (0 : Int32)).1 187 16).toInt = 0 := by
      rw [u_eq]
      rfl
    refine (s_X12_tell w9 (by omega)).to ?_
    rintro _ ma ⟨wa, fa, rfl, pa⟩
    have pa' : (ma.1 187 16).toInt = ((uI (uI m8 189 s (if b = true then 1 else 0)) 187 16 (0 : Int32)).1 187 16).toInt + 1 := pa
    refine ⟨rfl, (s_X12_tell wa (by omega)).to ?_⟩
    rintro _ mb ⟨wb, fb, rfl, -⟩
    have F0 : Fx (RS [20, 22, 24, 26, 28, 29, 30, 31, 46, 49]) m mb := ((((Fx.tr Fx.rf f7 (RS_sub rfl)).tr f8 (RS_sub rfl)).tr f9 (RS_sub rfl)).tr fa (RS_sub rfl)).tr fb (RS_sub rfl)
    refine ⟨rfl, rfl, wb, f.tr F0 (fun _ _ h => h), ((hm8.fx f9 rfl rfl).fx fa rfl rfl).fx fb rfl rfl, ((um8.fx f9 rfl).fx fa rfl).fx fb rfl, em.ke F0 rfl (fun k _ => F0.at (nRS (ρ := 47) rfl rfl)) (fun j hj => ?_)⟩
    rw [fb.at (a := 189) (k := j) (nRS (ρ := 46) rfl rfl), fa.at (a := 189) (k := j) (nRS (ρ := 46) rfl rfl), u_ne (by omega)]
    by_cases q : j = s
    · rw [q, u_eq, hb]
    · rw [u_ne (fun z => q z.2), e189 j, if_neg q]
      exact em.2.2.2.2.2.1 j hj
  refine ⟨z4, rfl, V, fun c => fin 0 ?_, fun c => fin 1 ?_⟩
  · rw [e189 s, if_pos rfl] at c
    cases b with
    | false => rfl
    | true => exact absurd rfl c
  · rw [e189 s, if_pos rfl] at c
    cases b with
    | false => exact absurd c (by decide)
    | true => rfl
set_option maxHeartbeats 1000000 in
theorem e_paysM {nr : Nat} (w1 : WT m1) (hm1 : HM (nE v) m1 g) (em1 : EM m1 v) (um1 : UnM (nE v) m1 H) (hl : H.length ≤ 20) (hO : PlO v m1 op) (n2 : m1.1 187 12 = nI nr) (hnr : ∀ p, op = some p → nr < rdP p) : Ct ad μX12_pays (d + 300) [.ref (ad 187), .int x1, .int x2] m1 (gbQ [20, 22, 24, 26, 28, 29, 30, 31, 46, 49] m1 g v H (payA v op nr x1 x2 g)) := by
  have n8 := em1.2.2.1
  have w0 : WT (uI m1 187 17 0) := w1.n rfl
  have f0 : Fx (RS [20]) m1 (uI m1 187 17 0) := Fx.rf.i rfl
  have em0 : EM (uI m1 187 17 0) v := em1.fx f0 rfl
  have hm0 : HM (nE v) (uI m1 187 17 0) g := hm1
  have um0 : UnM (nE v) (uI m1 187 17 0) H := um1.fx f0 rfl
  have hO0 : PlO v (uI m1 187 17 0) op := hO.fx f0 rfl rfl rfl rfl
  have nn : payA v op nr x1 x2 g = -1 → gbQ [20, 22, 24, 26, 28, 29, 30, 31, 46, 49] m1 g v H (payA v op nr x1 x2 g) (some (.int (-1))) (uI m1 187 17 0) := fun e => ⟨by rw [e], w0, Fx.tr Fx.rf f0 (RS_sub rfl), hm0, um0, em0⟩
  refine v_X12_pays (d := d + 299) ((sideM (d := d + 298) em0.1 n8).to ?_)
  rintro _ m2 ⟨eq, v3, rfl, y1, y2⟩
  obtain rfl := eq.symm
  refine ⟨v3, rfl, fun q => nn (payA_1 (ninN_of (y1 q))), fun q => (inM (x := x2) (lo := 0) (hi := 50) rfl rfl).to ?_⟩
  rintro _ m2 ⟨eq, v4, rfl, y3, y4⟩
  obtain rfl := eq.symm
  have z50 : (50 : Int32).toInt = 50 := rfl
  have z0 : (0 : Int32).toInt = 0 := rfl
  refine ⟨v4, rfl, fun q => nn (payA_2 (fun z => y3 q (by omega))), fun q2 => ⟨fun n11 => ?_, fun e11 => nn (payA_3 (hO0.mm.mp e11))⟩⟩
  obtain ⟨s, hs, rfl⟩ := (y2 q).of
  have y5 := y4 q2
  obtain ⟨k, hk, rfl⟩ := zn_of (x := x2) (by omega)
  rw [nI_toInt hk] at y5
  cases op with
  | none => exact absurd (hO0.mm.mpr rfl) n11
  | some p =>
    obtain ⟨hp, -, hpM⟩ := hO
    have hn := hnr p rfl
    rw [payA_4 hs n8 (by omega)]
    refine (layH (x := 0) (na := 57) (reg := 30) rfl (by decide) (by decide) (fun _ => rfl) (fun _ => rfl) w0 hm0 n8 (by decide)).to ?_
    rintro _ m3 ⟨rfl, w3, f3, hL3, -, -⟩
    have h12 : m3.1 187 12 = nI nr := (f3.at (nRS (ρ := 52) rfl rfl)).trans n2
    refine ⟨rfl, (pbM (d := d + 127) (s := s) (k := k) hp (by omega) hn w3 (hm0.fx f3 rfl rfl) (um0.fx f3 rfl) hl (em0.fx f3 rfl) ((hpM.fx f0 rfl rfl).fx f3 rfl rfl) h12 hL3 hs n8).to ?_⟩
    rintro _ m6 ⟨w6, f6, hm6, um6, hL6, rfl⟩
    have F6 : Fx (RS [20, 22, 24, 26, 28, 29, 30, 31, 46, 49]) m1 m6 := ((Fx.tr Fx.rf f0 (RS_sub rfl)).tr f3 (RS_sub rfl)).tr f6 (RS_sub rfl)
    have em6 : EM m6 v := (em0.fx f3 rfl).fx f6 rfl
    have hP6 : PlnM m6 p := ((hpM.fx f0 rfl rfl).fx f3 rfl rfl).fx f6 rfl rfl
    have h126 : m6.1 187 12 = nI nr := (f6.at (nRS (ρ := 52) rfl rfl)).trans h12
    have V : vp_in (nI s) 8 := nat_in (by omega) (by decide)
    refine ⟨_, rfl, V, fun cq => ?_, fun cq => ?_⟩
    · have hb : iE v s = true := by
        cases hb : iE v s with
        | true => rfl
        | false =>
          rw [nI_clamp (by omega), em6.2.2.2.2.2.1 s hs, hb] at cq
          exact absurd rfl cq
      rw [hb]
      exact py_69 (d := d + 127) (b := true) hp (by omega) hn hs n8 hb w6 F6 hm6 um6 hl em6 hP6 h126 hL6
    · have hb : iE v s = false := by
        cases hb : iE v s with
        | false => rfl
        | true =>
          rw [nI_clamp (by omega), em6.2.2.2.2.2.1 s hs, hb] at cq
          exact absurd cq (by decide)
      rw [hb]
      exact py_69 (d := d + 127) (b := false) hp (by omega) hn hs n8 hb w6 F6 hm6 um6 hl em6 hP6 h126 hL6
/-- where the plan is, beside the plan -/
theorem nx_of (nx : NxR m) (hO : PlO v m op) : ∃ nr, m.1 0 11 = nI nr ∧ m.1 187 12 = nI nr ∧ ∀ p, op = some p → nr < rdP p := by
  obtain ⟨nr, R, n1, n2, n3, n4, n5⟩ := nx
  refine ⟨nr, n1, n2, fun p hp => ?_⟩
  subst hp
  obtain ⟨hp, -, hpM⟩ := hO
  have h1 := hp.1
  have h2 := hp.2.1
  have : rdP p = R := (nI_eq (a := rdP p) (b := R) (by omega) (by omega)).mp (hpM.1.symm.trans n3)
  omega
theorem og_pays (c : Nat) (x1 x2 : Int32) : Both ad d μX11_pays μX12_pays [.int x1, .int x2] (InvK (KX KG c)) (InvK (KX KG (c + 1))) := fun m I => by
  obtain ⟨w, I1, ⟨g, v, H, kd⟩, kb⟩ := I
  obtain ⟨hc, hm, ec, em, uc, um, zb, zh, kp, nx⟩ := kd
  obtain ⟨op, hO⟩ := plO_of kb.1 ec
  obtain ⟨nr, n1, n2, hnr⟩ := nx_of nx hO
  refine (e_paysC (d := d + 294) (x1 := x1) (x2 := x2) w hc ec hO n1 hnr).to ?_
  rintro _ m1 ⟨w1, f1, rfl, h35⟩
  have ec1 : EC m1 v := ec.ke f1 rfl (fun k _ => f1.at (nRS (ρ := 43) rfl rfl)) h35
  refine ⟨_, rfl, (e_paysM (d := d) (x1 := x1) (x2 := x2) w1 (hm.fx f1 rfl rfl) (em.fx f1 rfl) (um.fx f1 rfl) uc.1 (hO.fx f1 rfl rfl rfl rfl) ((f1.at (nRS (ρ := 52) rfl rfl)).trans n2) hnr).to ?_⟩
  rintro r m2 ⟨hz, w2, f2, hm2, um2, em2⟩
  exact ⟨hz, w2, I1.f2 f1 f2 rfl rfl, ⟨g, v, H, (hc.fx SS_21 f1 rfl).fx SS_21 f2 rfl, hm2, ec1.fx f2 rfl, em2, (uc.fx f1 rfl rfl).fx f2 rfl rfl, um2, zb, zh, (kp.fx f1 rfl rfl).fx f2 rfl rfl, (nx.fx f1 rfl rfl rfl).fx f2 rfl rfl rfl⟩, KB.fd c f1 f2 kb rfl rfl⟩
end PAY
/-! CALL: laws, with its answers -/
section LWS
variable {ad : Nat → Nat} {d nr : Nat} {m m' m1 m0 : Wm} {g : GS} {v : EV} {H : List GS} {p : PLN} {S : List Nat} {op : Option PLN} {x1 : Int32}
theorem cmp_le {x y : Int32} : lg_cmp x.toInt64 y.toInt64 ≤ 0 ↔ x ≤ y := by
  have z0 : (0 : Int32).toInt = 0 := rfl
  have k : 0 < lg_cmp x.toInt64 y.toInt64 ↔ y < x := by rw [lg_cmp_gt, fa_wide_lt]
  constructor
  · intro h
    have h1 := z_le h
    exact (fa_le _ _).mpr (Int.not_lt.mp (fun q => by have := z_lt (k.mpr ((fa_lt _ _).mpr q)); omega))
  · intro h
    have h1 := z_le h
    exact (fa_le _ _).mpr (Int.not_lt.mp (fun q => by have := z_lt (k.mp ((fa_lt _ _).mpr q)); omega))
theorem EC.l0 {y x : Int32} (h : EC m (setL v 0 y)) : EC (uI m 4 0 x) (setL v 0 x) := by
  obtain ⟨q1, q2, q3, q4, q5, q6, q7⟩ := h
  have f : Fx (RS [43]) m (uI m 4 0 x) := Fx.rf.i rfl
  refine ⟨q1, q2, q3, q4, fun k hk => ?_, q6, q7.fx f rfl⟩
  have e := q5 k hk
  show (uI m 4 0 x).1 4 k = upd (lE v) 0 x k
  have e' : m.1 4 k = upd (lE v) 0 y k := e
  rw [upd_at] at e' ⊢
  by_cases q : k = 0
  · rw [if_pos q, q, u_eq]
  · rw [if_neg q, u_ne (fun z => q z.2), e', if_neg q]
theorem EC.lz (h : EC m (setL v 0 (lE v 0))) : EC m v := by
  obtain ⟨q1, q2, q3, q4, q5, q6, q7⟩ := h
  refine ⟨q1, q2, q3, q4, fun k hk => ?_, q6, q7⟩
  have e' : m.1 4 k = upd (lE v) 0 (lE v 0) k := q5 k hk
  rw [e', upd_at]
  by_cases q : k = 0
  · rw [if_pos q, q]
  · rw [if_neg q]
theorem EC.la (h : EC m v) : EC m (setL v 0 (lE v 0)) := by
  obtain ⟨q1, q2, q3, q4, q5, q6, q7⟩ := h
  refine ⟨q1, q2, q3, q4, fun k hk => ?_, q6, q7⟩
  show m.1 4 k = upd (lE v) 0 (lE v 0) k
  rw [q5 k hk, upd_at]
  by_cases q : k = 0
  · rw [if_pos q, q]
  · rw [if_neg q]
theorem lwA_2 (h : ¬ (0 ≤ x1.toInt ∧ x1.toInt ≤ 50)) : lwA v op nr x1 g = -1 := by
  cases op with
  | none => rfl
  | some p => exact if_neg h
theorem lwA_3 (h : op = none) : lwA v op nr x1 g = -1 := by
  subst h
  rfl
theorem lwA_4 {k : Nat} (hk : k ≤ 50) : lwA v (some p) nr (nI k) g = nI (bsF (lwV v p k nr g) 4) := by
  have tk : (nI k).toInt = k := nI_toInt (by omega)
  unfold lwA
  dsimp only
  rw [if_pos (by omega), nI_clamp (by omega)]
def lzQ (v : EV) (m0 : Wm) (z : Int32) (r : Option Value) (m' : Wm) : Prop := WT m' ∧ Fx (RS [2, 5, 9, 14, 43]) m0 m' ∧ r = some (.int z) ∧ EC m' v
set_option maxHeartbeats 1000000 in
theorem lc_37 {k : Nat} (hp : PlnOK v p) (hk : k ≤ 50) (hnr : nr < rdP p) : ∀ (j q : Nat) (m1 : Wm) (y : Int32), q + j = 4 → WT m1 → Fx (RS [2, 5, 9, 14, 43]) m0 m1 → HC 21 m1 g → EC m1 (setL v 0 y) → PlnC m1 p → m1.1 0 11 = nI nr → (∀ i, i < q → m1.2.1 150 i = (lwV v p k nr g i).toInt64) →
    AW ad E0 μX11_laws (d + 6) (lzQ v m0 (nI (bsF (lwV v p k nr g) 4))) 37 [(0, .ref (ad 0)), (1, .int (nI k)), (2, .int (lE v 0)), (3, .int (nI (bsF (lwV v p k nr g) q))), (4, .int (nI q))] [] m1 := by
  have e00 : (0 : Int32).toNatClampNeg = 0 := rfl
  intro j
  induction j with
  | zero =>
    intro q m1 y hq w1 f1 hc ec hP h11 hr
    obtain rfl : q = 4 := hq
    refine g_X11_laws_37 (d := d + 5) ⟨fun _ => ?_, fun c => absurd ((le_l 4 4 rfl (by decide) (by omega)).mpr (Nat.le_refl _)) c⟩
    rw [e00]
    have f2 : Fx (RS [9]) (uI m1 4 0 (lE v 0)) (uI (uI m1 4 0 (lE v 0)) 0 18 (4 : Int32)) := Fx.rf.i rfl
    exact ⟨(w1.n rfl).t rfl (by decide) (by decide), (f1.i rfl).i rfl, rfl, (EC.fx (EC.lz ec.l0) f2 rfl)⟩
  | succ j ih =>
    intro q m1 y hq w1 f1 hc ec hP h11 hr
    refine g_X11_laws_37 (d := d + 5) ⟨fun c => absurd ((le_l 4 4 rfl (by decide) (by omega)).mp c) (by omega), fun _ => ?_⟩
    rw [e00]
    have f7 : Fx (RS [43]) m1 (uI m1 4 0 (nI q)) := Fx.rf.i rfl
    have w7 : WT (uI m1 4 0 (nI q)) := w1.n rfl
    have ec7 : EC (uI m1 4 0 (nI q)) (setL v 0 (nI q)) := ec.l0
    refine (aheadC (d := d) (v := setL v 0 (nI q)) (p := p) hp (n := k) (by omega) hnr w7 (hc.fx SS_21 f7 rfl) ec7 (hP.fx f7 rfl rfl) ((f7.at (nRS (ρ := 44) rfl rfl)).trans h11)).to ?_
    rintro _ m2 ⟨rfl, w2, f2, g', hg, h26⟩
    have ec2 := ec7.fx f2 rfl
    refine ⟨rfl, (totC (d := d + 3) SS_26 h26 ec2).to ?_⟩
    rintro _ m3 ⟨eq, rfl⟩
    obtain rfl := eq.symm
    have e : totG (setL v 0 (nI q)) g' = lwV v p k nr g q := totG_E hg
    have hc2 := (hc.fx SS_21 f7 rfl).fx SS_21 f2 rfl
    have hP2 := (hP.fx f7 rfl rfl).fx f2 rfl rfl
    have h112 : m2.1 0 11 = nI nr := (f2.at (nRS (ρ := 44) rfl rfl)).trans ((f7.at (nRS (ρ := 44) rfl rfl)).trans h11)
    have F2 : Fx (RS [2, 5, 9, 14, 43]) m0 m2 := (f1.i rfl).tr f2 (RS_sub rfl)
    have hr2 : ∀ i, i < q → m2.2.1 150 i = (lwV v p k nr g i).toInt64 := fun i hi => (f2 150 i (nRS (ρ := 9) rfl rfl)).2.1.trans (hr i hi)
    have hb : bsF (lwV v p k nr g) q ≤ q := by
      by_cases h0 : q = 0
      · subst h0; exact Nat.le_refl _
      · exact Nat.le_of_lt (bsF_lt (by omega) q (Nat.le_refl _))
    rw [e, nI_1, nI_clamp (by omega), nI_clamp (by omega)]
    generalize hF : lwV v p k nr g = F at hr2 hb ih ⊢
    have e150 : ∀ i, i ≤ q → (uL m2 150 q (F q).toInt64).2.1 150 i = (F i).toInt64 := fun i hi => by
      by_cases z : i = q
      · rw [z]; exact if_pos ⟨rfl, rfl⟩
      · exact (if_neg (fun y => z y.2)).trans (hr2 i (by omega))
    have fL : Fx (RS [9]) m2 (uL m2 150 q (F q).toInt64) := Fx.rf.l rfl
    have N := ih (q + 1) (uL m2 150 q (F q).toInt64) (nI q) (by omega) w2.l (F2.l rfl) (hc2.fx SS_21 fL rfl) (ec2.fx fL rfl) (hP2.fx fL rfl rfl) ((fL.at (nRS (ρ := 44) rfl rfl)).trans h112) (fun i hi => e150 i (by omega))
    refine ⟨_, rfl, nat_in (by omega) (by decide), nat_in (by omega) (by decide), nat_in (by omega) (by decide), ?_⟩
    rw [e150 q (Nat.le_refl _), e150 _ hb]
    refine ⟨fun c => ?_, fun c => ?_⟩
    · rw [bsF_p (f := F) (cmp_le.mp c)] at N
      exact N
    · rw [bsF_n (f := F) (fun z => c (cmp_le.mpr z))] at N
      exact N
theorem e_lawsV (w : WT m) (hc : HC 21 m g) (ec : EC m v) (hO : PlO v m op) (h11 : m.1 0 11 = nI nr) (hnr : ∀ p, op = some p → nr < rdP p) : Ct ad μX11_laws (d + 6) [.ref (ad 0), .int x1] m (lzQ v m (lwA v op nr x1 g)) := by
  have e00 : (0 : Int32).toNatClampNeg = 0 := rfl
  have nn : lwA v op nr x1 g = -1 → lzQ v m (lwA v op nr x1 g) (some (.int (-1))) m := fun e => ⟨w, Fx.rf, by rw [e], ec⟩
  obtain ⟨P, q1, q2, q3⟩ := hO.c
  refine v_X11_laws (d := d + 5) ⟨fun c => nn (lwA_2 (fun z => ?_)), fun c0 => ⟨fun c => nn (lwA_2 (fun z => ?_)), fun c50 => ⟨P, q1, q2, fun ne => ?_, fun e => nn (lwA_3 (q3.mp e))⟩⟩⟩
  · have := y_ltr (n := 0) rfl c; omega
  · have := y_ltl (n := 50) rfl c; omega
  have k0 := y_nltr (n := 0) rfl c0
  have k50 := y_nltl (n := 50) rfl c50
  obtain ⟨k, hk, rfl⟩ := zn_of k0
  rw [nI_toInt hk] at k50
  cases op with
  | none => exact absurd (q3.mpr rfl) ne
  | some p =>
    obtain ⟨hp, hpC, -⟩ := hO
    rw [e00, ec.2.2.2.2.1 0 (by decide), lwA_4 (by omega)]
    exact lc_37 (d := d) (m0 := m) hp (by omega) (hnr p rfl) 4 0 m (lE v 0) rfl w Fx.rf hc ec.la hpC h11 (fun i hi => absurd hi (Nat.not_lt_zero i))
set_option maxHeartbeats 1000000 in
theorem lw_55 {k : Nat} (hp : PlnOK v p) (hk : k ≤ 50) (hnr : nr < rdP p) (h8 : nE v ≤ 8) (hl : H.length ≤ 20) : ∀ (j q : Nat) (m1 : Wm) (y x3 x4 : Int32), q + j = 4 → (1 ≤ q → x3 = nI (bsF (lwV v p k nr g) q) ∧ x4 = lwV v p k nr g (bsF (lwV v p k nr g) q)) → WT m1 → Fx (RS [20, 22, 24, 26, 28, 29, 30, 31, 47, 49]) m0 m1 → HM (nE v) m1 g → UnM (nE v) m1 H → HL (nE v) 202 0 m1 g → EM m1 (setL v 0 y) → PlnM m1 p → m1.1 187 12 = nI nr → (m1.1 187 16).toInt = q →
    AW ad E0 μX12_laws (d + 172) (gbQ [20, 22, 24, 26, 28, 29, 30, 31, 47, 49] m0 g v H (nI (bsF (lwV v p k nr g) 4))) 55 [(0, .ref (ad 187)), (1, .int (nI k)), (2, .int (lE v 0)), (3, .int x3), (4, .int x4), (5, .int (nI q))] [] m1 := by
  have e00 : (0 : Int32).toNatClampNeg = 0 := rfl
  intro j
  induction j with
  | zero =>
    intro q m1 y x3 x4 hq hx w1 f1 hm um hL em hP h12 h16
    obtain rfl : q = 4 := hq
    refine g_X12_laws_55 (d := d + 171) ⟨fun _ => ?_, fun c => absurd ((le_l 4 4 rfl (by decide) (by omega)).mpr (Nat.le_refl _)) c⟩
    rw [e00]
    have f2 : Fx (RS [47]) m1 (uI m1 193 0 (lE v 0)) := Fx.rf.i rfl
    exact ⟨by rw [(hx (by decide)).1], w1.n rfl, f1.tr f2 (RS_sub rfl), hm.fx f2 rfl rfl, um.fx f2 rfl, em.l0.lz⟩
  | succ j ih =>
    intro q m1 y x3 x4 hq hx w1 f1 hm um hL em hP h12 h16
    refine g_X12_laws_55 (d := d + 171) ⟨fun c => absurd ((le_l 4 4 rfl (by decide) (by omega)).mp c) (by omega), fun _ => ?_⟩
    rw [e00]
    have f2 : Fx (RS [47]) m1 (uI m1 193 0 (nI q)) := Fx.rf.i rfl
    have w2 : WT (uI m1 193 0 (nI q)) := w1.n rfl
    have em2 : EM (uI m1 193 0 (nI q)) (setL v 0 (nI q)) := em.l0
    have hm2 := hm.fx f2 rfl rfl
    have um2 := um.fx f2 rfl
    have hL2 : HL (nE v) 202 0 (uI m1 193 0 (nI q)) g := hL.fx (ρ := 30) f2 (fun _ => rfl) rfl
    have hP2 := hP.fx f2 rfl rfl
    have h122 : (uI m1 193 0 (nI q)).1 187 12 = nI nr := h12
    have h162 : ((uI m1 193 0 (nI q)).1 187 16).toInt = q := h16
    rw [h122]
    have F2 := f1.tr f2 (RS_sub (l2 := [20, 22, 24, 26, 28, 29, 30, 31, 47, 49]) rfl)
    generalize uI m1 193 0 (nI q) = m2 at w2 em2 hm2 um2 hL2 hP2 h122 h162 F2 ⊢
    refine (goRoundsM (d := d) (v := setL v 0 (nI q)) (p := p) (lk := false) (sv := false) (x3 := 0) (x4 := 0) hp (by decide) (by decide) (by omega) hnr w2 hm2 um2 hl em2 hP2).to ?_
    rintro _ m3 ⟨rfl, w3, f3, hm3, um3, -⟩
    rw [rds_sv] at um3
    have um3' : UnM (nE v) m3 H := um3
    refine ⟨rfl, (totM (d := d + 170) (v := setL v 0 (nI q)) hm3 (em2.fx f3 rfl)).to ?_⟩
    rintro _ m4 ⟨eq, rfl⟩
    obtain rfl := eq.symm
    have e1 : (rdsR false false (setL v 0 (nI q)) p k nr (g, H, 0, 0)).1 = ahG (setL v 0 (nI q)) p k nr g := rds_1 _ _ _ _ rfl
    have e2 : totG (setL v 0 (nI q)) (rdsR false false (setL v 0 (nI q)) p k nr (g, H, 0, 0)).1 = lwV v p k nr g q := by
      rw [e1]
      rfl
    rw [e2]
    have hL4 : HL (nE v) 202 0 m3 g := hL2.fx (ρ := 30) f3 (fun _ => rfl) rfl
    refine ⟨_, rfl, (bringH (x := 0) (na := 57) rfl (by decide) (by decide) w3 hL4 (by decide)).to ?_⟩
    rintro _ m5 ⟨rfl, w5, f5, hm5⟩
    have e16 : (m5.1 187 16).toInt = q := by
      rw [f5.at (a := 187) (k := 16) (nRS (ρ := 26) rfl rfl), f3.at (a := 187) (k := 16) (nRS (ρ := 26) rfl rfl)]
      exact h162
    refine ⟨rfl, (s_X12_tell w5 (by omega)).to ?_⟩
    rintro _ m6 ⟨w6, f6, rfl, p6⟩
    have p6' : (m6.1 187 16).toInt = (m5.1 187 16).toInt + 1 := p6
    have F6 := ((F2.tr f3 (RS_sub rfl)).tr f5 (RS_sub rfl)).tr f6 (RS_sub rfl)
    have N : ∀ y3 y4 : Int32, y3 = nI (bsF (lwV v p k nr g) (q + 1)) → y4 = lwV v p k nr g (bsF (lwV v p k nr g) (q + 1)) → AW ad E0 μX12_laws (d + 172) (gbQ [20, 22, 24, 26, 28, 29, 30, 31, 47, 49] m0 g v H (nI (bsF (lwV v p k nr g) 4))) 55 [(0, .ref (ad 187)), (1, .int (nI k)), (2, .int (lE v 0)), (3, .int y3), (4, .int y4), (5, .int (nI (q + 1)))] [] m6 := fun y3 y4 h3 h4 => by
      refine ih (q + 1) m6 (nI q) y3 y4 (by omega) (fun _ => ⟨h3, h4⟩) w6 F6 (hm5.fx f6 rfl rfl) ((um3'.fx f5 rfl).fx f6 rfl) ((hL4.fx (ρ := 30) f5 (fun _ => rfl) rfl).fx (ρ := 30) f6 (fun _ => rfl) rfl) (((em2.fx f3 rfl).fx f5 rfl).fx f6 rfl) (((hP2.fx f3 rfl rfl).fx f5 rfl rfl).fx f6 rfl rfl) ?_ (by omega)
      rw [f6.at (a := 187) (k := 12) (nRS (ρ := 52) rfl rfl), f5.at (a := 187) (k := 12) (nRS (ρ := 52) rfl rfl), f3.at (a := 187) (k := 12) (nRS (ρ := 52) rfl rfl)]
      exact h122
    rw [nI_1]
    refine ⟨rfl, fun c => ?_, fun c => ?_⟩
    · have c0 := (l_le 0 0 rfl (by decide) (by omega)).mp c
      obtain rfl : q = 0 := by omega
      exact N _ _ (by rw [bsF_1]) (by rw [bsF_1])
    · have c0 : 1 ≤ q := Nat.pos_of_ne_zero (fun z => c ((l_le 0 0 rfl (by decide) (by omega)).mpr (by omega)))
      obtain ⟨h3, h4⟩ := hx c0
      rw [h3, h4]
      refine ⟨fun c2 => ?_, fun c2 => ?_⟩
      · have c3 : ¬ lwV v p k nr g q ≤ lwV v p k nr g (bsF (lwV v p k nr g) q) := fun z => by
          have := z_lt c2
          have := z_le z
          omega
        exact N _ _ (by rw [bsF_n c3]) (by rw [bsF_n c3])
      · have c3 : lwV v p k nr g q ≤ lwV v p k nr g (bsF (lwV v p k nr g) q) := (fa_le _ _).mpr (z_nlt c2)
        exact N _ _ (by rw [bsF_p c3]) (by rw [bsF_p c3])
set_option maxHeartbeats 1000000 in
theorem e_lawsW (w1 : WT m1) (hm1 : HM (nE v) m1 g) (em1 : EM m1 v) (um1 : UnM (nE v) m1 H) (hl : H.length ≤ 20) (hO : PlO v m1 op) (n2 : m1.1 187 12 = nI nr) (hnr : ∀ p, op = some p → nr < rdP p) : Ct ad μX12_laws (d + 300) [.ref (ad 187), .int x1] m1 (gbQ [20, 22, 24, 26, 28, 29, 30, 31, 47, 49] m1 g v H (lwA v op nr x1 g)) := by
  have n8 := em1.2.2.1
  have e00 : (0 : Int32).toNatClampNeg = 0 := rfl
  have w0 : WT (uI m1 187 17 0) := w1.n rfl
  have f0 : Fx (RS [20]) m1 (uI m1 187 17 0) := Fx.rf.i rfl
  have em0 : EM (uI m1 187 17 0) v := em1.fx f0 rfl
  have hm0 : HM (nE v) (uI m1 187 17 0) g := hm1
  have um0 : UnM (nE v) (uI m1 187 17 0) H := um1.fx f0 rfl
  have hO0 : PlO v (uI m1 187 17 0) op := hO.fx f0 rfl rfl rfl rfl
  have nn : lwA v op nr x1 g = -1 → gbQ [20, 22, 24, 26, 28, 29, 30, 31, 47, 49] m1 g v H (lwA v op nr x1 g) (some (.int (-1))) (uI m1 187 17 0) := fun e => ⟨by rw [e], w0, Fx.tr Fx.rf f0 (RS_sub rfl), hm0, um0, em0⟩
  have z50 : (50 : Int32).toInt = 50 := rfl
  have z0 : (0 : Int32).toInt = 0 := rfl
  refine v_X12_laws (d := d + 299) ((inM (x := x1) (lo := 0) (hi := 50) rfl rfl).to ?_)
  rintro _ m2 ⟨eq, v4, rfl, y3, y4⟩
  obtain rfl := eq.symm
  refine ⟨v4, rfl, fun q => nn (lwA_2 (fun z => y3 q (by omega))), fun q2 => ⟨fun n11 => ?_, fun e11 => nn (lwA_3 (hO0.mm.mp e11))⟩⟩
  have y5 := y4 q2
  obtain ⟨k, hk, rfl⟩ := zn_of (x := x1) (by omega)
  rw [nI_toInt hk] at y5
  cases op with
  | none => exact absurd (hO0.mm.mpr rfl) n11
  | some p =>
    obtain ⟨hp, -, hpM⟩ := hO
    have e193 : (uI m1 187 17 0).1 193 0 = lE v 0 := em0.2.2.2.2.1 0 (by decide)
    rw [e00, e193, lwA_4 (by omega)]
    refine (layH (x := 0) (na := 57) (reg := 30) rfl (by decide) (by decide) (fun _ => rfl) (fun _ => rfl) w0 hm0 n8 (by decide)).to ?_
    rintro _ m3 ⟨rfl, w3, f3, hL3, -, -⟩
    have w4 : WT (uI m3 187 16 (0 : Int32)) := w3.t rfl (by decide) (by decide)
    have f4 : Fx (RS [26]) m3 (uI m3 187 16 (0 : Int32)) := Fx.rf.i rfl
    have F4 : Fx (RS [20, 22, 24, 26, 28, 29, 30, 31, 47, 49]) m1 (uI m3 187 16 (0 : Int32)) := ((Fx.tr Fx.rf f0 (RS_sub rfl)).tr f3 (RS_sub rfl)).tr f4 (RS_sub rfl)
    refine ⟨rfl, lw_55 (d := d + 128) (m0 := m1) (k := k) (nr := nr) hp (by omega) (hnr p rfl) n8 hl 4 0 _ (lE v 0) 0 0 rfl (fun z => absurd z (by decide)) w4 F4 ((hm0.fx f3 rfl rfl).fx f4 rfl rfl) ((um0.fx f3 rfl).fx f4 rfl) (hL3.fx (ρ := 30) f4 (fun _ => rfl) rfl) ((em0.fx f3 rfl).fx f4 rfl).la (((hpM.fx f0 rfl rfl).fx f3 rfl rfl).fx f4 rfl rfl) ((f4.at (nRS (ρ := 52) rfl rfl)).trans ((f3.at (nRS (ρ := 52) rfl rfl)).trans n2)) ?_⟩
    rw [u_eq]
    rfl
theorem og_laws (c : Nat) (x1 : Int32) : Both ad d μX11_laws μX12_laws [.int x1] (InvK (KX KG c)) (InvK (KX KG (c + 1))) := fun m I => by
  obtain ⟨w, I1, ⟨g, v, H, kd⟩, kb⟩ := I
  obtain ⟨hc, hm, ec, em, uc, um, zb, zh, kp, nx⟩ := kd
  obtain ⟨pl, lw, kq⟩ := kb
  obtain ⟨op, hO⟩ := plO_of pl ec
  obtain ⟨nr, n1, n2, hnr⟩ := nx_of nx hO
  refine (e_lawsV (d := d + 294) (x1 := x1) w hc ec hO n1 hnr).to ?_
  rintro _ m1 ⟨w1, f1, rfl, ec1⟩
  refine ⟨_, rfl, (e_lawsW (d := d) (x1 := x1) w1 (hm.fx f1 rfl rfl) (em.fx f1 rfl) (um.fx f1 rfl) uc.1 (hO.fx f1 rfl rfl rfl rfl) ((f1.at (nRS (ρ := 52) rfl rfl)).trans n2) hnr).to ?_⟩
  rintro r m2 ⟨hz, w2, f2, hm2, um2, em2⟩
  have ec2 := ec1.fx f2 rfl
  exact ⟨hz, w2, I1.f2 f1 f2 rfl rfl, ⟨g, v, H, (hc.fx SS_21 f1 rfl).fx SS_21 f2 rfl, hm2, ec2, em2, (uc.fx f1 rfl rfl).fx f2 rfl rfl, um2, zb, zh, (kp.fx f1 rfl rfl).fx f2 rfl rfl, (nx.fx f1 rfl rfl rfl).fx f2 rfl rfl rfl⟩, (pl.fx f1 rfl rfl rfl rfl rfl).fx f2 rfl rfl rfl rfl rfl, fun k hk => (ec2.2.2.2.2.1 k hk).trans (em2.2.2.2.2.1 k hk).symm, ((kq.fx f1 rfl rfl rfl).fx f2 rfl rfl rfl).up⟩
end LWS
