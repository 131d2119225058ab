section STM
variable {ad : Nat → Nat} {d b ρ a e f t : Nat} {m m' m0 : Wm} {g : GS} {v : EV} {S : List Nat}
theorem nI_r {k n : Nat} (hk : k < 2147483648) (hn : n < 2147483648) (h : ¬ k = n) : ¬ nI k = nI n := fun q => h ((nI_eq hk hn).mp q)
theorem pointsC (hb : SS b ρ) (w : WT m) (f0 : Fx (RS [2, ρ]) m0 m) (h : HC b m g) (ha : a < 8) (he : e < 8) {x : Int32} : Ct ad μX1_givePoints d [.ref (ad b), .int (nI a), .int (nI e), .int x] m (fun r m' => r = none ∧ WT m' ∧ Fx (RS [2, ρ]) m0 m' ∧ HC b m' (ptG a e x g)) := by
  have p0 := h.2.1
  refine v_X1_givePoints hb.1 ?_
  rw [nI_clamp (by omega), nI_clamp (by omega), p0 a ha, p0 e he]
  have V1 : vp_in (nI a) 8 := nat_in ha (by decide)
  have V2 : vp_in (nI e) 8 := nat_in he (by decide)
  refine ⟨fun n2 => ⟨fun n0 => ⟨V2, V2, rfl, hb.wu w (by decide), hb.fu f0 (by decide), ?_⟩, fun q0 => ⟨V1, V1, rfl, hb.wu w (by decide), hb.fu f0 (by decide), ?_⟩⟩, fun q2 => ⟨V1, V1, V2, V2, rfl, hb.wu (hb.wu w (by decide)) (by decide), hb.fu (hb.fu f0 (by decide)) (by decide), ?_⟩⟩
  · unfold ptG
    rw [if_neg n2, if_neg n0]
    exact h.pt
  · unfold ptG
    rw [if_neg n2, if_pos q0]
    exact h.pt
  · have e1 : (uI m (b + 2) a (g.2.1 a + 1)).1 (b + 2) e = upd g.2.1 a (g.2.1 a + 1) e := h.pt.2.1 e he
    rw [e1]
    unfold ptG
    rw [if_pos q2]
    exact (h.pt).pt
theorem settleC (hb : SS b ρ) (hρ : GR ρ) (w : WT m) (h : HC b m g) (hE : EC m v) (ha : a < 8) (he : e < 8) (hae : a ≠ e) {x4 x5 : Int32} {cn : Bool} (hc : x5 = 0 ↔ cn = false) :
    Ct ad μX1_settle (d + 3) [.ref (ad 3), .ref (ad b), .int (nI a), .int (nI e), .int x4, .int x5] m (fun r m' => r = none ∧ WT m' ∧ Fx (RS [2, ρ]) m m' ∧ HC b m' (stlG cn v a e x4 g)) := by
  have e00 : (0 : Int32).toNatClampNeg = 0 := rfl
  have hb3 : ¬ (b ≤ 3 ∧ 3 ≤ b + 4) := fun q => by
    have r3 := (hb.2 (3 - b) 3 (by omega)).1
    rw [show b + (3 - b) = 3 by omega] at r3
    have r4 : rg 3 3 = 41 := rfl
    rw [r4] at r3
    rcases hρ with z | z | z | z | z | z | z <;> omega
  have lw0 : ∀ m1, Fx (RS [2, ρ]) m m1 → m1.1 4 0 = lE v 0 := fun m1 f1 => (f1.at (nRS (ρ := 43) (all_ne (L := [1, 41, 42, 43]) hρ.e1 rfl) rfl)).trans (hE.2.2.2.2.1 0 (by decide))
  -- who won, who lost
  have WL : ∀ (wi lo : Nat) (g1 : GS) (m1 : Wm), wi < 8 → lo < 8 → wi ≠ lo → WT m1 → Fx (RS [2, ρ]) m m1 → HC b m1 g1 → AW ad E0 μX1_settle (d + 2 + 1) (fun r m' => r = none ∧ WT m' ∧ Fx (RS [2, ρ]) m m' ∧ HC b m' (stl2 cn v wi lo (stl1 cn v wi lo g1))) 52 [(0, .ref (ad 3)), (1, .ref (ad b)), (5, .int x5), (6, .int (nI wi))] [.int (nI lo)] m1 := by
    intro wi lo g1 m1 hwi hlo hwl w1 f1 H1
    have B : ∀ (g2 : GS) (m2 : Wm), WT m2 → Fx (RS [2, ρ]) m m2 → HC b m2 g2 → AW ad E0 μX1_settle (d + 2 + 1) (fun r m' => r = none ∧ WT m' ∧ Fx (RS [2, ρ]) m m' ∧ HC b m' (stl2 cn v wi lo g2)) 84 [(0, .ref (ad 3)), (1, .ref (ad b)), (5, .int x5), (6, .int (nI wi)), (7, .int (nI lo))] [] m2 := by
      intro g2 m2 w2 f2 H2
      have T : lE v 0 = 1 ∨ lE v 0 = 2 → AW ad E0 μX1_settle (d + 2 + 1) (fun r m' => r = none ∧ WT m' ∧ Fx (RS [2, ρ]) m m' ∧ HC b m' (stl2 cn v wi lo g2)) 104 [(0, .ref (ad 3)), (1, .ref (ad b)), (5, .int x5), (6, .int (nI wi)), (7, .int (nI lo))] [] m2 := fun q => by
        refine g_X1_settle_104 hb.1 ((teachC (d := d) hb hρ w2 f2 H2 (hE.fx f2 hρ.e1) hlo hwi (Ne.symm hwl) hc).to ?_)
        rintro _ m3 ⟨rfl, w3, f3, H3⟩
        refine ⟨rfl, rfl, w3, f3, ?_⟩
        unfold stl2
        rw [if_pos q]
        exact H3
      refine g_X1_settle_84 hb.1 ?_
      rw [e00, lw0 m2 f2]
      refine ⟨fun q => T (Or.inl q), fun n1 => ⟨fun n2 => ⟨rfl, w2, f2, ?_⟩, fun q => T (Or.inr q)⟩⟩
      unfold stl2
      rw [if_neg (fun z => z.elim n1 n2)]
      exact H2
    have T : lE v 0 = 0 ∨ lE v 0 = 2 → Ct ad μX1_teach (d + 2) [.ref (ad 3), .ref (ad b), .int (nI wi), .int (nI lo), .int x5] m1 (fun r m2 => r = none ∧ AW ad E0 μX1_settle (d + 2 + 1) (fun r m' => r = none ∧ WT m' ∧ Fx (RS [2, ρ]) m m' ∧ HC b m' (stl2 cn v wi lo (stl1 cn v wi lo g1))) 84 [(0, .ref (ad 3)), (1, .ref (ad b)), (5, .int x5), (6, .int (nI wi)), (7, .int (nI lo))] [] m2) := fun q => by
      refine (teachC (d := d) hb hρ w1 f1 H1 (hE.fx f1 hρ.e1) hwi hlo hwl hc).to ?_
      rintro _ m3 ⟨rfl, w3, f3, H3⟩
      refine ⟨rfl, ?_⟩
      have es : stl1 cn v wi lo g1 = tchG cn v wi lo g1 := if_pos q
      rw [es]
      exact B _ _ w3 f3 H3
    refine g_X1_settle_52 hb.1 ?_
    rw [e00, lw0 m1 f1]
    refine ⟨fun q => T (Or.inl q), fun n0 => ⟨fun n2 => ?_, fun q => T (Or.inr q)⟩⟩
    have es : stl1 cn v wi lo g1 = g1 := if_neg (fun z => z.elim n0 n2)
    rw [es]
    exact B _ _ w1 f1 H1
  -- behind the points
  have A : ∀ (g1 : GS) (m1 : Wm), (g1 = if cn = true then ptG a e x4 g else g) → WT m1 → Fx (RS [2, ρ]) m m1 → HC b m1 g1 → AW ad E0 μX1_settle (d + 2 + 1) (fun r m' => r = none ∧ WT m' ∧ Fx (RS [2, ρ]) m m' ∧ HC b m' (stlG cn v a e x4 g)) 23 [(0, .ref (ad 3)), (1, .ref (ad b)), (2, .int (nI a)), (3, .int (nI e)), (4, .int x4), (5, .int x5)] [] m1 := by
    intro g1 m1 hg w1 f1 H1
    refine g_X1_settle_23 hb.1 ⟨fun n2 => ⟨fun n0 => ⟨fun _ => ?_, fun q => absurd q n0⟩, fun q0 => ⟨fun q => absurd q0 q, fun _ => ?_⟩⟩, fun q2 => ⟨rfl, w1, f1, ?_⟩⟩
    · unfold stlG
      rw [if_neg n2, if_neg n0, if_neg n0, ← hg]
      exact WL e a g1 m1 he ha (Ne.symm hae) w1 f1 H1
    · unfold stlG
      rw [if_neg n2, if_pos q0, if_pos q0, ← hg]
      exact WL a e g1 m1 ha he hae w1 f1 H1
    · unfold stlG
      rw [if_pos q2, ← hg]
      exact H1
  have w2 : WT (uI (uI m 3 6 (-1 : Int32)) 3 7 (0 : Int32)) := (w.n rfl).n rfl
  have f2 : Fx (RS [2, ρ]) m (uI (uI m 3 6 (-1 : Int32)) 3 7 (0 : Int32)) := ((Fx.rf (S := RS [2, ρ])).i (show RS [2, ρ] 3 6 from rfl)).i (show RS [2, ρ] 3 7 from rfl)
  have H2 : HC b (uI (uI m 3 6 (-1 : Int32)) 3 7 (0 : Int32)) g := (h.o hb3).o hb3
  refine v_X1_settle hb.1 ⟨fun q => ?_, fun q => (pointsC (d := d + 2) hb w2 f2 H2 ha he).to ?_⟩
  · exact A g _ (by rw [hc.mp q]; rfl) w2 f2 H2
  · rintro _ m1 ⟨rfl, w1, f1, H1⟩
    have hcn : cn = true := by
      cases hc2 : cn with
      | true => rfl
      | false => exact absurd (hc.mpr hc2) q
    exact ⟨rfl, A _ m1 (by rw [if_pos hcn]) w1 f1 H1⟩
end STM
/-! what a side can do, who wins, the chance -/
def pwG (v : EV) (g : GS) (s : Nat) : Int32 := pwF (tE v) (zE v) g.1 g.2.1 g.2.2.1 (aE v) s
def rsG (v : EV) (x : Int32) : Int32 := if x ≤ lE v 3 then (if -x ≤ lE v 3 then 2 else 1) else 0
def wnG (v : EV) (g : GS) (a b : Nat) (th : Int32) : Int32 := if th = 1 then 1 else if th = 2 then 0 else if th = 3 then 2 else rsG v (pwG v g a - pwG v g b)
def clH (x : Int32) : Int32 := if 0 < (if x < 100 then x else 100) then (if x < 100 then x else 100) else 0
def chG (v : EV) (g : GS) (a b : Nat) : Int32 := clH (50 + lE v 4 * (pwG v g a - pwG v g b))
theorem clampH {ad : Nat → Nat} {d : Nat} {m : Wm} {x : Int32} : Ct ad μX11_clamp d [.int x, .int 0, .int 100] m (fun r m' => m' = m ∧ r = some (.int (clH x))) := (clampC (by decide)).to (fun r m1 h => h)
section RES
variable {ad : Nat → Nat} {d b ρ a e s : Nat} {m m' m0 : Wm} {g : GS} {v : EV}
theorem fr14 {m1 : Wm} (f : Fx (RS [14]) m m1) : Fx (RS [14]) m m1 := f
/-- the class's power, by the rule in force -/
theorem valueC (hb : SS b ρ) (hρ : GR ρ) (w : WT m) (h : HC b m g) (hE : EC m v) (hs : s < 8) : ∃ P, m.2.2 3 1 = some P ∧ Ru P ∧ Ct ad μX5_value (d + 3) [.ref (ad P), .ref (ad b), .int (nI s), .int (nI (aE v))] m (fun r m' => WT m' ∧ Fx (RS [14]) m m' ∧ r = some (.int (pwG v g s))) := by
  obtain ⟨e1, e2, e3, e4, e5, e6, P, Q, hR, cl, hX, hv⟩ := hE
  have hP : P = 5 ∨ P = 10 := by have := hR.2.2; omega
  refine ⟨P, hR.1, Ru_of hP, ?_⟩
  rcases hv with ⟨hz, hn⟩ | ⟨hz, hn, hv⟩
  · refine (e_value (v := 0) hb hρ.e2 hP w h hs e4 hX (fun q => absurd hn q)).to ?_
    rintro r m1 ⟨w1, f1, rfl⟩
    refine ⟨w1, f1, ?_⟩
    unfold pwG pwF
    rw [if_pos hn, if_pos hz]
  · refine (e_value hb hρ.e2 hP w h hs e4 hX (fun _ => hv _)).to ?_
    rintro r m1 ⟨w1, f1, rfl⟩
    refine ⟨w1, f1, ?_⟩
    unfold pwG pwF
    rw [if_neg hn, if_neg hz]
theorem resultOfC (h : ∀ k, k < 5 → m.1 4 k = lE v k) {x : Int32} : Ct ad μX1_resultOf d [.ref (ad 3), .int x] m (fun r m' => m' = m ∧ r = some (.int (rsG v x))) := by
  have e33 : (3 : Int32).toNatClampNeg = 3 := rfl
  refine v_X1_resultOf ?_
  rw [e33, h 3 (by decide)]
  unfold rsG
  exact ⟨fun c => ⟨fun c2 => ⟨rfl, by rw [if_pos c, if_pos c2]⟩, fun c2 => ⟨rfl, by rw [if_pos c, if_neg c2]⟩⟩, fun c => ⟨rfl, by rw [if_neg c]⟩⟩
theorem resultC (hb : SS b ρ) (hρ : GR ρ) (w : WT m) (h : HC b m g) (hE : EC m v) (ha : a < 8) (he : e < 8) {th : Int32} (ht : th = 0 ∨ th = 1 ∨ th = 2 ∨ th = 3) : Ct ad μX1_result (d + 4) [.ref (ad 3), .ref (ad b), .int (nI a), .int (nI e), .int th] m (fun r m' => WT m' ∧ Fx (RS [14]) m m' ∧ r = some (.int (wnG v g a e th))) := by
  refine v_X1_result (d := d + 3) hb.1 ⟨fun n3 => ⟨fun q0 => ?_, fun n0 => ⟨fun n1 => ⟨w, Fx.rf, ?_⟩, fun q1 => ⟨w, Fx.rf, ?_⟩⟩⟩, fun q3 => ⟨w, Fx.rf, ?_⟩⟩
  · subst q0
    obtain ⟨P, hP, hRu, hV⟩ := valueC (ad := ad) (d := d) hb hρ w h hE ha
    refine ⟨P, hP, hRu, ?_⟩
    rw [hE.2.1]
    refine hV.to ?_
    rintro _ m1 ⟨w1, f1, rfl⟩
    have H1 := h.fx hb f1 hρ.e2
    have E1 := hE.fx f1 rfl
    obtain ⟨P2, hP2, hRu2, hV2⟩ := valueC (ad := ad) (d := d) hb hρ w1 H1 E1 he
    refine ⟨_, rfl, P2, hP2, hRu2, ?_⟩
    rw [E1.2.1]
    refine hV2.to ?_
    rintro _ m2 ⟨w2, f2, rfl⟩
    refine ⟨_, rfl, (resultOfC (d := d + 3) (v := v) (E1.fx f2 rfl).2.2.2.2.1).to ?_⟩
    rintro _ m3 ⟨eq, rfl⟩
    obtain rfl := eq.symm
    exact ⟨_, rfl, w2, f1.tr f2 (fun _ _ h => h), rfl⟩
  · rcases ht with q | q | q | q
    · exact absurd q n0
    · exact absurd q n1
    · rw [q]; rfl
    · exact absurd q n3
  · rw [q1]; rfl
  · rw [q3]; rfl
theorem chanceC (hb : SS b ρ) (hρ : GR ρ) (w : WT m) (h : HC b m g) (hE : EC m v) (ha : a < 8) (he : e < 8) : Ct ad μX1_chance (d + 4) [.ref (ad 3), .ref (ad b), .int (nI a), .int (nI e)] m (fun r m' => WT m' ∧ Fx (RS [14]) m m' ∧ r = some (.int (chG v g a e))) := by
  have e44 : (4 : Int32).toNatClampNeg = 4 := rfl
  obtain ⟨P, hP, hRu, hV⟩ := valueC (ad := ad) (d := d) hb hρ w h hE ha
  refine v_X1_chance (d := d + 3) hb.1 ⟨P, hP, hRu, ?_⟩
  rw [hE.2.1, e44, hE.2.2.2.2.1 4 (by decide)]
  refine hV.to ?_
  rintro _ m1 ⟨w1, f1, rfl⟩
  have H1 := h.fx hb f1 hρ.e2
  have E1 := hE.fx f1 rfl
  obtain ⟨P2, hP2, hRu2, hV2⟩ := valueC (ad := ad) (d := d) hb hρ w1 H1 E1 he
  refine ⟨_, rfl, P2, hP2, hRu2, ?_⟩
  rw [E1.2.1]
  refine hV2.to ?_
  rintro _ m2 ⟨w2, f2, rfl⟩
  refine ⟨_, rfl, (clampH (d := d + 3)).to ?_⟩
  rintro _ m3 ⟨eq, rfl⟩
  obtain rfl := eq.symm
  exact ⟨_, rfl, w2, f1.tr f2 (fun _ _ h => h), rfl⟩
end RES
