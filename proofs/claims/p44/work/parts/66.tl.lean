/-! best, even, pays: when they are refused, the same on both sides -/
def bstR (v : EV) (x1 x2 : Int32) (g : GS) : Prop := ¬ (InD (nE v) x1 ∧ 0 ≤ x2.toInt ∧ x2.toInt ≤ 9) ∨ srG v g x2.toNatClampNeg = none
def evnR (v : EV) (x1 : Int32) (g : GS) : Prop := ¬ ((0 ≤ x1.toInt ∧ x1.toInt ≤ 9) ∧ ¬ nE v = 0) ∨ srG v g x1.toNatClampNeg = none
def payR (v : EV) (op : Option PLN) (x1 x2 : Int32) : Prop := ¬ (0 ≤ x1.toInt ∧ x1.toInt < nE v) ∨ ¬ (0 ≤ x2.toInt ∧ x2.toInt ≤ 50) ∨ op = none
/-- by N: the class's number is as it was, or k -/
def kjC (S : List Nat) (N : Prop) (k : Int) (m : Wm) (r : Option Value) (m' : Wm) : Prop := WT m' ∧ Fx (RS S) m m' ∧ (∃ z : Int32, r = some (.int z)) ∧ ((N ∧ (m'.1 0 18).toInt = (m.1 0 18).toInt) ∨ (¬ N ∧ (m'.1 0 18).toInt = k))
def kjM (S : List Nat) (N : Prop) (k : Int) (m : Wm) (r : Option Value) (m' : Wm) : Prop := WT m' ∧ Fx (RS S) m m' ∧ (∃ z : Int32, r = some (.int z)) ∧ ((N ∧ (m'.1 187 16).toInt = (m.1 187 16).toInt) ∨ (¬ N ∧ (m'.1 187 16).toInt = k))
section NBE
variable {ad : Nat → Nat} {d : Nat} {m m' m1 : Wm} {g : GS} {v : EV} {op : Option PLN} {x1 x2 : Int32} {S : List Nat} {N : Prop} {k : Int}
theorem nc_no {R : List Nat} {z : Int32} (n : N) (w1 : WT m') (f : Fx (RS R) m m') (e : (R.all fun x => S.elem x) = true) (e9 : R.elem 9 = false) : kjC S N k m (some (.int z)) m' := ⟨w1, (Fx.rf (S := RS S)).tr f (RS_sub e), ⟨z, rfl⟩, Or.inl ⟨n, congrArg _ (f.at (nRS (ρ := 9) e9 rfl))⟩⟩
theorem nm_no {R : List Nat} {z : Int32} (n : N) (w1 : WT m') (f : Fx (RS R) m m') (e : (R.all fun x => S.elem x) = true) (e9 : R.elem 26 = false) : kjM S N k m (some (.int z)) m' := ⟨w1, (Fx.rf (S := RS S)).tr f (RS_sub e), ⟨z, rfl⟩, Or.inl ⟨n, congrArg _ (f.at (nRS (ρ := 26) e9 rfl))⟩⟩
theorem n_bestC (w0 : WT m) (hW : SWx m) (hc : HC 21 m g) (hE : EC m v) (hz : ZB v g) : Ct ad μX11_best (d + 7) [.ref (ad 0), .int x1, .int x2] m (kjC [2, 9, 10, 11, 14, 58] (bstR v x1 x2 g) 1 m) := by
  have n8 := hE.2.2.1
  have no : ¬ (InD (nE v) x1 ∧ 0 ≤ x2.toInt ∧ x2.toInt ≤ 9) → kjC [2, 9, 10, 11, 14, 58] (bstR v x1 x2 g) 1 m (some (.int (-1))) m := fun z => nc_no (R := []) (Or.inl z) w0 Fx.rf rfl rfl
  refine v_X11_best (d := d + 6) ((hasC (d := d + 6) (x := x1) hE.1 n8).to ?_)
  rintro _ m1 ⟨eq, v1, rfl, y1, y2⟩
  obtain rfl := eq.symm
  refine ⟨v1, rfl, fun c => no (fun z => y1 c z.1), fun c => ⟨fun c3 => no (fun z => ?_), fun c3 => ⟨fun c4 => ?_, fun c4 => no (fun z => ?_)⟩⟩⟩
  · have := y_ltr (n := 0) rfl c3
    have := z.2.1
    omega
  · have h1 := y2 c
    have k3 := y_nltr (n := 0) rfl c3
    have k4 := y_ler (n := 9) rfl c4
    obtain ⟨s, hs, rfl⟩ := h1.of
    obtain ⟨n, hn, rfl⟩ := zn_of k3
    have tn := nI_toInt (n := n) hn
    rw [nI_toInt hn] at k4
    refine (exploreC (d := d) w0 hW hc hE hz (wi := n) (by omega)).to ?_
    rintro r m2 (⟨S, e, rfl, h⟩ | ⟨e, rfl, h⟩)
    · refine ⟨1, rfl, fun _ => (greatC (d := d + 1) h (s := s) (by omega)).to ?_, fun q => absurd q (by decide)⟩
      rintro _ m3 ⟨h3, rfl⟩
      have t6 := h3.1.at (a := 156) (k := 6) rfl
      refine ⟨_, rfl, vpi (by omega) (by omega), (n_X11_tell h3.1).to ?_⟩
      rintro _ m4 ⟨w4, f4, rfl, p4⟩
      refine ⟨rfl, w4, ((Fx.rf (S := RS [2, 9, 10, 11, 14, 58])).tr h3.2.1 (RS_sub rfl)).tr f4 (RS_sub rfl), ⟨_, rfl⟩, Or.inr ⟨fun z => ?_, p4⟩⟩
      rcases z with z | z
      · exact z ⟨h1, by omega, by omega⟩
      · rw [nI_clamp hn, e] at z; cases z
    · exact ⟨0, rfl, fun q => absurd rfl q, fun _ => nc_no (Or.inr (by rw [nI_clamp hn]; exact e)) h.1 h.2.1 rfl rfl⟩
  · have := y_nler (n := 9) rfl c4
    have := z.2.2
    omega
theorem n_evenC (w0 : WT m) (hW : SWx m) (hc : HC 21 m g) (hE : EC m v) (hz : ZB v g) : Ct ad μX11_even (d + 7) [.ref (ad 0), .int x1] m (kjC [2, 9, 10, 11, 14, 58] (evnR v x1 g) 1 m) := by
  have n8 := hE.2.2.1
  have no : ¬ ((0 ≤ x1.toInt ∧ x1.toInt ≤ 9) ∧ ¬ nE v = 0) → kjC [2, 9, 10, 11, 14, 58] (evnR v x1 g) 1 m (some (.int (-1))) m := fun z => nc_no (R := []) (Or.inl z) w0 Fx.rf rfl rfl
  refine v_X11_even (d := d + 6) ⟨fun c3 => no (fun z => ?_), fun c3 => ⟨fun c4 => no (fun z => ?_), fun c4 => ⟨fun c5 => ?_, fun c5 => no (fun z => ?_)⟩⟩⟩
  · have := y_ltr (n := 0) rfl c3
    have := z.1.1
    omega
  · have := y_ltl (n := 9) rfl c4
    have := z.1.2
    omega
  · have k3 := y_nltr (n := 0) rfl c3
    have k4 := y_nltl (n := 9) rfl c4
    have hn0 : ¬ nE v = 0 := fun z => c5 (by rw [hE.1, z]; rfl)
    obtain ⟨n, hn, rfl⟩ := zn_of k3
    have tn := nI_toInt (n := n) hn
    rw [nI_toInt hn] at k4
    refine (exploreC (d := d) w0 hW hc hE hz (wi := n) (by omega)).to ?_
    rintro r m2 (⟨S, e, rfl, h⟩ | ⟨e, rfl, h⟩)
    · refine ⟨1, rfl, fun _ => (gapC (d := d) h (by omega)).to ?_, fun q => absurd q (by decide)⟩
      rintro _ m3 ⟨h3, rfl⟩
      have t6 := h3.1.at (a := 156) (k := 6) rfl
      refine ⟨_, rfl, vpi (by omega) (by omega), (n_X11_tell h3.1).to ?_⟩
      rintro _ m4 ⟨w4, f4, rfl, p4⟩
      refine ⟨rfl, w4, ((Fx.rf (S := RS [2, 9, 10, 11, 14, 58])).tr h3.2.1 (RS_sub rfl)).tr f4 (RS_sub rfl), ⟨_, rfl⟩, Or.inr ⟨fun z => ?_, p4⟩⟩
      rcases z with z | z
      · exact z ⟨⟨by omega, by omega⟩, hn0⟩
      · rw [nI_clamp hn, e] at z; cases z
    · exact ⟨0, rfl, fun q => absurd rfl q, fun _ => nc_no (Or.inr (by rw [nI_clamp hn]; exact e)) h.1 h.2.1 rfl rfl⟩
  · exact z.2 ((nI_eq (a := nE v) (b := 0) (by omega) (by decide)).mp (hE.1.symm.trans c5))
theorem n_bestM (w0 : WT m) (hm : HM (nE v) m g) (hE : EM m v) (hz : ZB v g) : Ct ad μX12_best (d + 178) [.ref (ad 187), .int x1, .int x2] m (kjM [20, 22, 24, 26, 28, 34, 35, 49] (bstR v x1 x2 g) 1 m) := by
  have n8 := hE.2.2.1
  have w1 : WT (uI m 187 17 0) := w0.n rfl
  have f1 : Fx (RS [20]) m (uI m 187 17 0) := Fx.i Fx.rf rfl
  have hm1 : HM (nE v) (uI m 187 17 0) g := hm
  have em1 : EM (uI m 187 17 0) v := hE
  refine v_X12_best (d := d + 177) ?_
  generalize uI m 187 17 0 = m1 at w1 f1 hm1 em1 ⊢
  have no : ¬ (InD (nE v) x1 ∧ 0 ≤ x2.toInt ∧ x2.toInt ≤ 9) → kjM [20, 22, 24, 26, 28, 34, 35, 49] (bstR v x1 x2 g) 1 m (some (.int (-1))) m1 := fun z => nm_no (Or.inl z) w1 f1 rfl rfl
  refine (sideM (d := d + 176) (x := x1) em1.1 n8).to ?_
  rintro _ m2 ⟨eq, v1, rfl, y1, y2⟩
  obtain rfl := eq.symm
  refine ⟨v1, rfl, fun c => no (fun z => y1 c z.1), fun c => (inM (d := d + 177) (x := x2) (lo := 0) (hi := 9) rfl rfl).to ?_⟩
  rintro _ m2 ⟨eq, v3, rfl, y5, y6⟩
  obtain rfl := eq.symm
  have z0 : (0 : Int32).toInt = 0 := rfl
  have z9 : (9 : Int32).toInt = 9 := rfl
  refine ⟨v3, rfl, fun c3 => ?_, fun c3 => no (fun z => y5 c3 ⟨by omega, by omega⟩)⟩
  have h1 := y2 c
  have h3 := y6 c3
  obtain ⟨s, hs, rfl⟩ := h1.of
  obtain ⟨n, hn, rfl⟩ := zn_of (x := x2) (by omega)
  have tn := nI_toInt (n := n) hn
  have ts : (nI s).toInt = (s : Int) := nI_toInt (by omega)
  refine (findStatesX (d := d) w1 hm1 em1 hz (wi := n) (by omega)).to ?_
  rintro r m2 ⟨w2, f2, -, -, -, q⟩
  have F : Fx (RS [20, 22, 24, 28, 34, 35, 49]) m m2 := ((Fx.rf (S := RS [20, 22, 24, 28, 34, 35, 49])).tr f1 (RS_sub rfl)).tr f2 (RS_sub rfl)
  rcases q with ⟨S, e, rfl, -⟩ | ⟨e, rfl⟩
  · refine ⟨1, rfl, fun _ => ?_, fun q => absurd q (by decide)⟩
    have F2 : Fx (RS [20, 22, 24, 26, 28, 34, 35, 49]) m m2 := (Fx.rf (S := RS [20, 22, 24, 26, 28, 34, 35, 49])).tr F (RS_sub rfl)
    refine AW.mono (nl_X12_best (m0 := m) 1000000 m2 (nI s) 0 0 0 w2 F2 (by omega) (by omega) (by decide) (by decide) (by decide) (by decide) (by show 3000 - (0 : Int) < _; omega)) ?_
    rintro r m' ⟨w', f', z, rfl, p⟩
    refine ⟨w', f', ⟨z, rfl⟩, Or.inr ⟨fun z => ?_, p⟩⟩
    rcases z with z | z
    · exact z ⟨h1, by omega, by omega⟩
    · rw [nI_clamp hn, e] at z; cases z
  · exact ⟨0, rfl, fun q => absurd rfl q, fun _ => nm_no (Or.inr (by rw [nI_clamp hn]; exact e)) w2 F rfl rfl⟩
theorem n_evenM (w0 : WT m) (hm : HM (nE v) m g) (hE : EM m v) (hz : ZB v g) : Ct ad μX12_even (d + 178) [.ref (ad 187), .int x1] m (kjM [20, 22, 24, 26, 28, 34, 35, 49, 33] (evnR v x1 g) 1 m) := by
  have n8 := hE.2.2.1
  have w1 : WT (uI m 187 17 0) := w0.n rfl
  have f1 : Fx (RS [20]) m (uI m 187 17 0) := Fx.i Fx.rf rfl
  have hm1 : HM (nE v) (uI m 187 17 0) g := hm
  have em1 : EM (uI m 187 17 0) v := hE
  refine v_X12_even (d := d + 177) ?_
  generalize uI m 187 17 0 = m1 at w1 f1 hm1 em1 ⊢
  have no : ¬ ((0 ≤ x1.toInt ∧ x1.toInt ≤ 9) ∧ ¬ nE v = 0) → kjM [20, 22, 24, 26, 28, 34, 35, 49, 33] (evnR v x1 g) 1 m (some (.int (-1))) m1 := fun z => nm_no (Or.inl z) w1 f1 rfl rfl
  refine (inM (d := d + 177) (x := x1) (lo := 0) (hi := 9) rfl rfl).to ?_
  rintro _ m2 ⟨eq, v3, rfl, y5, y6⟩
  obtain rfl := eq.symm
  have z0 : (0 : Int32).toInt = 0 := rfl
  have z9 : (9 : Int32).toInt = 9 := rfl
  refine ⟨v3, rfl, fun c3 => no (fun z => y5 c3 ⟨by omega, by omega⟩), fun c3 => ⟨fun c5 => ?_, fun c5 => no (fun z => z.2 ((nI_eq (a := nE v) (b := 0) (by omega) (by decide)).mp (em1.1.symm.trans c5)))⟩⟩
  have h3 := y6 c3
  have hn0 : ¬ nE v = 0 := fun z => c5 (by rw [em1.1, z]; rfl)
  obtain ⟨n, hn, rfl⟩ := zn_of (x := x1) (by omega)
  have tn := nI_toInt (n := n) hn
  refine (findStatesX (d := d) w1 hm1 em1 hz (wi := n) (by omega)).to ?_
  rintro r m2 ⟨w2, f2, -, -, -, q⟩
  have F : Fx (RS [20, 22, 24, 28, 34, 35, 49]) m m2 := ((Fx.rf (S := RS [20, 22, 24, 28, 34, 35, 49])).tr f1 (RS_sub rfl)).tr f2 (RS_sub rfl)
  rcases q with ⟨S, e, rfl, -⟩ | ⟨e, rfl⟩
  · refine ⟨1, rfl, fun _ => ?_, fun q => absurd q (by decide)⟩
    have F2 : Fx (RS [20, 22, 24, 26, 28, 34, 35, 49, 33]) m m2 := (Fx.rf (S := RS [20, 22, 24, 26, 28, 34, 35, 49, 33])).tr F (RS_sub rfl)
    refine AW.mono (nl_X12_even (m0 := m) 1000000 m2 0 0 0 w2 F2 (by decide) (by decide) (by decide) (by decide) (by show 3000 - (0 : Int) < _; omega)) ?_
    rintro r m' ⟨w', f', z, rfl, p⟩
    refine ⟨w', f', ⟨z, rfl⟩, Or.inr ⟨fun z => ?_, p⟩⟩
    rcases z with z | z
    · exact z ⟨⟨by omega, by omega⟩, hn0⟩
    · rw [nI_clamp hn, e] at z; cases z
  · exact ⟨0, rfl, fun q => absurd rfl q, fun _ => nm_no (Or.inr (by rw [nI_clamp hn]; exact e)) w2 F rfl rfl⟩
theorem n_paysC (w : WT m) (ec : EC m v) (hO : PlO v m op) : Ct ad μX11_pays (d + 6) [.ref (ad 0), .int x1, .int x2] m (kjC [2, 5, 9, 14, 42] (payR v op x1 x2) 2 m) := by
  have n8 := ec.2.2.1
  have no : payR v op x1 x2 → kjC [2, 5, 9, 14, 42] (payR v op x1 x2) 2 m (some (.int (-1))) m := fun z => nc_no (R := []) z w Fx.rf rfl rfl
  refine v_X11_pays (d := d + 5) ((hasC ec.1 n8).to ?_)
  rintro _ m1 ⟨eq, v1, rfl, y1, y2⟩
  obtain rfl := eq.symm
  obtain ⟨P, q1, q2, q3⟩ := hO.c
  refine ⟨v1, rfl, fun q => no (Or.inl (ninN_of (y1 q))), fun q => ⟨fun c => no (Or.inr (Or.inl (fun z => ?_))), fun c0 => ⟨fun c => no (Or.inr (Or.inl (fun z => ?_))), fun c50 => ⟨P, q1, q2, fun ne => ?_, fun e => no (Or.inr (Or.inr (q3.mp e)))⟩⟩⟩⟩
  · have := y_ltr (n := 0) rfl c; omega
  · have := y_ltl (n := 50) rfl c; omega
  have k0 := y_nltr (n := 0) rfl c0
  have k50 := y_nltl (n := 50) rfl c50
  obtain ⟨s, hs, rfl⟩ := (y2 q).of
  have ts : (nI s).toInt = (s : Int) := nI_toInt (by omega)
  have V : vp_in (nI s) 8 := nat_in (by omega) (by decide)
  refine (s_X11_playAhead w (by omega) (by omega)).to ?_
  rintro _ m4 ⟨w4, f4, rfl⟩
  have w5 : WT (uI m4 3 5 ((m4.1 3 5) ^^^ ((1 : Int32) <<< (nI s &&& 31)))) := w4.n rfl
  refine ⟨rfl, V, (s_X11_playAhead w5 (by omega) (by omega)).to ?_⟩
  rintro _ m5 ⟨w6, f6, rfl⟩
  have w7 : WT (uI m5 3 5 ((m5.1 3 5) ^^^ ((1 : Int32) <<< (nI s &&& 31)))) := w6.n rfl
  have F : Fx (RS [2, 5, 9, 14, 42]) m (uI m5 3 5 ((m5.1 3 5) ^^^ ((1 : Int32) <<< (nI s &&& 31)))) := (((Fx.tr Fx.rf f4 (RS_sub rfl)).i rfl).tr f6 (RS_sub rfl)).i rfl
  refine ⟨rfl, V, (n_X11_tell_ w7).to ?_⟩
  rintro _ m6 ⟨w8, f8, rfl, p8⟩
  refine ⟨rfl, V, w8, F.tr f8 (RS_sub rfl), ⟨_, rfl⟩, Or.inr ⟨fun z => ?_, p8⟩⟩
  rcases z with z | z | z
  · exact z ⟨by omega, by omega⟩
  · exact z ⟨by omega, by omega⟩
  · exact ne (q3.mpr z)
theorem n_paysM (w1 : WT m1) (em1 : EM m1 v) (hO : PlO v m1 op) : Ct ad μX12_pays (d + 300) [.ref (ad 187), .int x1, .int x2] m1 (kjM [20, 22, 24, 26, 28, 29, 30, 31, 46, 49] (payR v op x1 x2) 2 m1) := by
  have n8 := em1.2.2.1
  have w0 : WT (uI m1 187 17 0) := w1.n rfl
  have f0 : Fx (RS [20]) m1 (uI m1 187 17 0) := Fx.rf.i rfl
  have em0 : EM (uI m1 187 17 0) v := em1.fx f0 rfl
  have hO0 : PlO v (uI m1 187 17 0) op := hO.fx f0 rfl rfl rfl rfl
  have no : payR v op x1 x2 → kjM [20, 22, 24, 26, 28, 29, 30, 31, 46, 49] (payR v op x1 x2) 2 m1 (some (.int (-1))) (uI m1 187 17 0) := fun z => nm_no z w0 f0 rfl rfl
  refine v_X12_pays (d := d + 299) ((sideM (d := d + 298) em0.1 n8).to ?_)
  rintro _ m2 ⟨eq, v3, rfl, y1, y2⟩
  obtain rfl := eq.symm
  refine ⟨v3, rfl, fun q => no (Or.inl (ninN_of (y1 q))), fun q => (inM (x := x2) (lo := 0) (hi := 50) rfl rfl).to ?_⟩
  rintro _ m2 ⟨eq, v4, rfl, y3, y4⟩
  obtain rfl := eq.symm
  have z50 : (50 : Int32).toInt = 50 := rfl
  have z0 : (0 : Int32).toInt = 0 := rfl
  refine ⟨v4, rfl, fun q => no (Or.inr (Or.inl (fun z => y3 q (by omega)))), fun q2 => ⟨fun n11 => ?_, fun e11 => no (Or.inr (Or.inr (hO0.mm.mp e11)))⟩⟩
  obtain ⟨s, hs, rfl⟩ := (y2 q).of
  have ts : (nI s).toInt = (s : Int) := nI_toInt (by omega)
  have y5 := y4 q2
  have V : vp_in (nI s) 8 := nat_in (by omega) (by decide)
  have a11 := w0.at (a := 187) (k := 11) rfl
  have k11 := z_ne n11
  have b11 : 1 ≤ ((uI m1 187 17 0).1 187 11).toInt := by omega
  refine (s_X12_lay_202 w0 (by decide) (by decide)).to ?_
  rintro _ m3 ⟨w3, f3, rfl⟩
  have c11 : 1 ≤ (m3.1 187 11).toInt := by rw [f3.at (a := 187) (k := 11) (nRS (ρ := 25) rfl rfl)]; exact b11
  refine ⟨rfl, (s_X12_pointsBehind w3 (by omega) (by omega) (by omega) (by omega) c11).to ?_⟩
  rintro _ m6 ⟨w6, f6, z6, rfl⟩
  have d11 : 1 ≤ (m6.1 187 11).toInt := by rw [f6.at (a := 187) (k := 11) (nRS (ρ := 25) rfl rfl)]; exact c11
  have F6 : Fx (RS [20, 22, 24, 26, 28, 29, 30, 31, 46, 49]) m1 m6 := ((Fx.tr Fx.rf f0 (RS_sub rfl)).tr f3 (RS_sub rfl)).tr f6 (RS_sub rfl)
  have nz : ¬ payR v op (nI s) x2 := fun z => by
    rcases z with z | z | z
    · exact z ⟨by omega, by omega⟩
    · exact z ⟨by omega, by omega⟩
    · exact n11 (hO0.mm.mpr z)
  have K : ∀ b : Int32, AW ad E0 μX12_pays (d + 300) (kjM [20, 22, 24, 26, 28, 29, 30, 31, 46, 49] (payR v op (nI s) x2) 2 m1) 69 [(0, .ref (ad 187)), (1, .int (nI s)), (2, .int x2), (3, .int z6)] [.int b, .int (nI s), .ref (ad 189)] m6 := fun b => by
    refine AW.mono ((nl_X12_pays (m0 := m1) 1000000).1 m6 (nI s) x2 z6 b (nI s) w6 F6 (by omega) (by omega) (by omega) (by omega) (by omega) (by omega) d11 (by omega)) ?_
    rintro r m' ⟨w', f', z, rfl, p⟩
    exact ⟨w', f', ⟨z, rfl⟩, Or.inr ⟨nz, p⟩⟩
  exact ⟨_, rfl, V, fun _ => K 0, fun _ => K 1⟩
end NBE
