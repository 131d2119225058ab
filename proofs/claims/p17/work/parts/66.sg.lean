/-! CALLS: judge -/
def GE (g g' : GS) : Prop := g.1 = g'.1 ∧ g.2.1 = g'.2.1 ∧ g.2.2.1 = g'.2.2.1
/-- a game that is told by the number c can be one -/
abbrev jOK (n c : Nat) : Prop := c / 100 ≤ 2 ∧ c / 10 % 10 < c % 10 ∧ c % 10 < n
def jdS (v : EV) (c : Nat) (g : GS) : GS := stlG true v (c / 10 % 10) (c % 10) (wnG v g (c / 10 % 10) (c % 10) (nI (c / 100))) g
def jdF (v : EV) (cd : Nat → Nat) : Nat → Nat → GS → Int32
  | 0, _, _ => -2
  | j + 1, k, g => if jOK (nE v) (cd k) then jdF v cd j (k + 1) (jdS v (cd k) g) else nI k
def cdG (x : Int32) (k : Nat) : Nat := ((x.toUInt32 >>> ((nI (10 * k)).toUInt32 &&& Int32.toUInt32 31)).toInt32 &&& (1023 : Int32)).toNatClampNeg
def jdA (v : EV) (x1 x2 : Int32) (g : GS) : Int32 := if 0 ≤ x1.toInt ∧ x1.toInt ≤ 3 then jdF v (cdG x2) x1.toNatClampNeg 0 g else -1
section GEE
variable {g g' : GS} {v : EV} {a b : Nat} {x th : Int32} {cn : Bool}
theorem wnG_E (h : GE g g') : wnG v g a b th = wnG v g' a b th := by
  unfold wnG pwG
  rw [h.1, h.2.1, h.2.2]
theorem thG_E : GE (thG th a b g) g := ⟨rfl, rfl, rfl⟩
theorem ptG_E (h : GE g g') : GE (ptG a b x g) (ptG a b x g') := by
  obtain ⟨g1, g2, g3, g4⟩ := g
  obtain ⟨k1, k2, k3, k4⟩ := g'
  obtain ⟨h1, h2, h3⟩ := h
  dsimp only at h1 h2 h3
  subst h1 h2 h3
  exact ⟨rfl, rfl, rfl⟩
theorem tchG_E (h : GE g g') : GE (tchG cn v a b g) (tchG cn v a b g') := by
  obtain ⟨g1, g2, g3, g4⟩ := g
  obtain ⟨k1, k2, k3, k4⟩ := g'
  obtain ⟨h1, h2, h3⟩ := h
  dsimp only at h1 h2 h3
  subst h1 h2 h3
  unfold tchG gainG
  dsimp only
  by_cases c : artG g1 a b (aE v) = -1
  · rw [if_pos c, if_pos c]
    exact ⟨rfl, rfl, rfl⟩
  · rw [if_neg c, if_neg c]
    exact ⟨rfl, rfl, rfl⟩
theorem stlG_E (h : GE g g') : GE (stlG cn v a b x g) (stlG cn v a b x g') := by
  have hp : GE (if cn = true then ptG a b x g else g) (if cn = true then ptG a b x g' else g') := by
    by_cases c : cn = true
    · rw [if_pos c, if_pos c]
      exact ptG_E h
    · rw [if_neg c, if_neg c]
      exact h
  unfold stlG
  generalize (if cn = true then ptG a b x g else g) = p at hp
  generalize (if cn = true then ptG a b x g' else g') = p' at hp
  by_cases c2 : x = 2
  · rw [if_pos c2, if_pos c2]
    exact hp
  · rw [if_neg c2, if_neg c2]
    generalize (if x = 0 then a else b) = wi
    generalize (if x = 0 then b else a) = lo
    have h1 : GE (stl1 cn v wi lo p) (stl1 cn v wi lo p') := by
      unfold stl1
      by_cases c : lE v 0 = 0 ∨ lE v 0 = 2
      · rw [if_pos c, if_pos c]
        exact tchG_E hp
      · rw [if_neg c, if_neg c]
        exact hp
    unfold stl2
    by_cases c : lE v 0 = 1 ∨ lE v 0 = 2
    · rw [if_pos c, if_pos c]
      exact tchG_E h1
    · rw [if_neg c, if_neg c]
      exact h1
theorem jdS_E {c : Nat} (h : GE g g') : GE (jdS v c g) (jdS v c g') := by
  unfold jdS
  rw [wnG_E h]
  exact stlG_E h
theorem jdF_E {cd : Nat → Nat} : ∀ (j k : Nat) (g g' : GS), GE g g' → jdF v cd j k g = jdF v cd j k g' := by
  intro j
  induction j with
  | zero => intro k g g' _; rfl
  | succ j ih =>
    intro k g g' h
    show (if jOK (nE v) (cd k) then jdF v cd j (k + 1) (jdS v (cd k) g) else nI k) = (if jOK (nE v) (cd k) then jdF v cd j (k + 1) (jdS v (cd k) g') else nI k)
    rw [ih (k + 1) _ _ (jdS_E h)]
end GEE
section JDG
variable {ad : Nat → Nat} {d : Nat} {m m0 : Wm} {g : GS} {v : EV} {H : List GS}
theorem nI_dv {a b : Nat} (ha : a < 2147483648) (hb : b < 2147483648) : nI a / nI b = nI (a / b) := by
  have h := Nat.div_le_self a b
  refine (fa_eq _ _).mpr ?_
  rw [Int32.toInt_div, nI_toInt ha, nI_toInt hb, nI_toInt (by omega)]
  have e : (a : Int).tdiv (b : Int) = ((a / b : Nat) : Int) := rfl
  rw [e]
  generalize a / b = q at h ⊢
  exact bm32 (by omega) (by omega)
theorem dv10 {a : Nat} (ha : a < 2147483648) : nI a / (10 : Int32) = nI (a / 10) := nI_dv (b := 10) ha (by decide)
theorem dv100 {a : Nat} (ha : a < 2147483648) : nI a / (100 : Int32) = nI (a / 100) := nI_dv (b := 100) ha (by decide)
theorem rem10 {a : Nat} (ha : a < 2147483648) : nI a - nI a / (10 : Int32) * (10 : Int32) = nI (a % 10) := nI_rem (G := 10) ha (by decide) (by decide)
theorem cd_eq (x : Int32) (k : Nat) : ((x.toUInt32 >>> ((nI (10 * k)).toUInt32 &&& Int32.toUInt32 31)).toInt32 &&& (1023 : Int32)) = nI (cdG x k) ∧ cdG x k < 1024 := by
  have h := t_and1023 ((x.toUInt32 >>> ((nI (10 * k)).toUInt32 &&& Int32.toUInt32 31)).toInt32)
  unfold cdG
  generalize ((x.toUInt32 >>> ((nI (10 * k)).toUInt32 &&& Int32.toUInt32 31)).toInt32 &&& (1023 : Int32)) = y at h ⊢
  obtain ⟨j, hj, rfl⟩ := zn_of h.1
  rw [nI_toInt hj] at h
  rw [nI_clamp hj]
  exact ⟨rfl, by omega⟩
theorem b_1023 : ∀ i, i < 32 → bt 1023 i = decide (i < 10) := by decide +kernel
theorem cd_M (x : Int32) {k : Nat} (hk : k ≤ 2) : ((x >>> (nI (10 * k) &&& 31)) &&& (1023 : Int32)) = nI (cdG x k) := by
  rw [← (cd_eq x k).1]
  refine b_ext (fun i hi => ?_)
  rw [b_and, b_and, b_sshr (10 * k) (by omega) x hi, b_ushr (10 * k) (by omega) x i, b_1023 i hi]
  by_cases q : i < 10
  · rw [if_pos (by omega)]
  · rw [decide_eq_false q, Bool.and_false, Bool.and_false]
theorem th_of {c : Nat} (h : c ≤ 2) : nI c = 0 ∨ nI c = 1 ∨ nI c = 2 ∨ nI c = 3 := thr_of (by rw [nI_toInt (by omega)]; omega)
theorem e_told {c : Nat} (hc : c < 1024) (w : WT m) (h : HC 26 m g) (hE : EC m v) : Ct ad μX11_playTold (d + 5) [.ref (ad 0), .int (nI c)] m (fun r m' => WT m' ∧ Fx (RS [2, 5, 14]) m m' ∧ ((jOK (nE v) c ∧ r = some (.int 1) ∧ HC 26 m' (jdS v c g)) ∨ (¬ jOK (nE v) c ∧ r = some (.int 0) ∧ m' = m))) := by
  have n8 := hE.2.2.1
  have hG : GR 5 := Or.inr (Or.inr (Or.inl rfl))
  have no : ¬ jOK (nE v) c → WT m ∧ Fx (RS [2, 5, 14]) m m ∧ ((jOK (nE v) c ∧ some (Value.int 0) = some (.int 1) ∧ HC 26 m (jdS v c g)) ∨ (¬ jOK (nE v) c ∧ some (Value.int 0) = some (.int 0) ∧ m = m)) := fun q => ⟨w, Fx.rf, Or.inr ⟨q, rfl, rfl⟩⟩
  refine v_X11_playTold (d := d + 4) ?_
  rw [rem10 (by omega), dv10 (by omega), rem10 (by omega), dv100 (by omega)]
  refine ⟨fun c2 => no (fun q => ?_), fun c2 => ⟨fun c3 => no (fun q => ?_), fun c3 => (meetC (d := d + 3) hE.1 n8).to ?_⟩⟩
  · have := (lt_l 2 2 rfl (by decide) (by omega)).mp c2
    have := q.1
    omega
  · have := (nI_leI (a := c % 10) (b := c / 10 % 10) (by omega) (by omega)).mp c3
    have := q.2.1
    omega
  · have k2 : c / 100 ≤ 2 := Nat.le_of_not_lt (fun z => c2 ((lt_l 2 2 rfl (by decide) (by omega)).mpr z))
    have k3 : c / 10 % 10 < c % 10 := Nat.lt_of_not_le (fun z => c3 ((nI_leI (a := c % 10) (b := c / 10 % 10) (by omega) (by omega)).mpr z))
    rintro _ m1 ⟨eq, v1, rfl, y1, y2⟩
    obtain rfl := eq.symm
    refine ⟨v1, rfl, fun q => ?_, fun q => no (fun z => ?_)⟩
    · have hT := (y2 q).2.1.2
      rw [nI_toInt (by omega)] at hT
      have hj : jOK (nE v) c := ⟨k2, k3, by omega⟩
      refine (resultC (d := d) SS_26 hG w h hE (by omega) (by omega) (th_of k2)).to ?_
      rintro _ m2 ⟨w2, f2, rfl⟩
      refine ⟨_, rfl, (settleC (d := d + 1) (cn := true) SS_26 hG w2 (h.fx SS_26 f2 rfl) (hE.fx f2 rfl) (by omega) (by omega) (by omega) (by decide)).to ?_⟩
      rintro _ m3 ⟨rfl, w3, f3, h3⟩
      exact ⟨rfl, w3, (Fx.tr Fx.rf f2 (RS_sub rfl)).tr f3 (RS_sub rfl), Or.inl ⟨hj, rfl, h3⟩⟩
    · have z3 := z.2.2
      exact y1 q ⟨InN.nI (by omega) (by omega), InN.nI z3 (by omega), nI_r (by omega) (by omega) (by omega)⟩
/-- the class's judge() -/
def jcQ (v : EV) (m : Wm) (a : Int32) (r : Option Value) (m' : Wm) : Prop := WT m' ∧ Fx (RS [2, 5, 9, 14]) m m' ∧ r = some (.int a)
theorem jc_67 {a : Int32} {m1 : Wm} (w1 : WT m1) (f1 : Fx (RS [2, 5, 14]) m0 m1) : AW ad E0 μX11_judge (d + 6) (jcQ v m0 a) 67 [(0, .ref (ad 0)), (3, .int a)] [] m1 := by
  refine g_X11_judge_67 (d := d + 5) ((s_X1_total (d := d + 3) w1 SS_26).to ?_)
  rintro _ m2 ⟨w2, f2, v2, rfl⟩
  refine ⟨v2, rfl, (s_X1_total (d := d + 3) w2 SS_21).to ?_⟩
  rintro _ m3 ⟨w3, f3, v3, rfl⟩
  refine ⟨v3, rfl, (s_X11_tell w3).to ?_⟩
  rintro _ m4 ⟨w4, f4, rfl⟩
  exact ⟨rfl, w4, (((Fx.tr Fx.rf f1 (RS_sub rfl)).tr f2 (RS_sub rfl)).tr f3 (RS_sub rfl)).tr f4 (RS_sub rfl), rfl⟩
theorem jc_28 {x2 : Int32} {N : Nat} (hN : N ≤ 3) (hE : EC m0 v) : ∀ (j k : Nat) (gC : GS) (m1 : Wm), k + j = N → WT m1 → Fx (RS [2, 5, 14]) m0 m1 → HC 26 m1 gC → AW ad E0 μX11_judge (d + 6) (jcQ v m0 (jdF v (cdG x2) j k gC)) 28 [(0, .ref (ad 0)), (1, .int (nI N)), (2, .int x2), (3, .int (-2)), (4, .int (nI k))] [] m1 := by
  intro j
  induction j with
  | zero =>
    intro k gC m1 hk w1 f1 h1
    exact g_X11_judge_28 (d := d + 5) ⟨fun _ => jc_67 w1 f1, fun c => absurd ((nI_leI (a := N) (b := k) (by omega) (by omega)).mpr (by omega)) c⟩
  | succ j ih =>
    intro k gC m1 hk w1 f1 h1
    obtain ⟨e1, e2⟩ := cd_eq x2 k
    refine g_X11_judge_28 (d := d + 5) ⟨fun c => absurd ((nI_leI (a := N) (b := k) (by omega) (by omega)).mp c) (by omega), fun _ => ⟨fun c => absurd rfl c, fun _ => ?_⟩⟩
    rw [l_mul 10 10 rfl, e1]
    refine (e_told (d := d) e2 w1 h1 (hE.fx f1 rfl)).to ?_
    rintro r m2 ⟨w2, f2, ⟨hj, rfl, h2⟩ | ⟨hj, rfl, e⟩⟩
    · refine ⟨1, rfl, fun _ => ?_, fun z => absurd z (by decide)⟩
      have e3 : jdF v (cdG x2) (j + 1) k gC = jdF v (cdG x2) j (k + 1) (jdS v (cdG x2 k) gC) := if_pos hj
      rw [e3, nI_1]
      exact ih (k + 1) _ m2 (by omega) w2 (f1.tr f2 (fun _ _ h => h)) h2
    · refine ⟨0, rfl, fun z => absurd rfl z, fun _ => ?_⟩
      have e3 : jdF v (cdG x2) (j + 1) k gC = nI k := if_neg hj
      rw [e3, nI_1]
      have F := f1.tr f2 (fun _ _ h => h)
      refine g_X11_judge_28 (d := d + 5) ⟨fun _ => jc_67 w2 F, fun _ => ⟨fun _ => jc_67 w2 F, fun z => ?_⟩⟩
      have h3 := congrArg Int32.toInt z
      rw [nI_toInt (by omega)] at h3
      have z2 : (-2 : Int32).toInt = -2 := rfl
      omega
theorem e_judgeC {x1 x2 : Int32} (w : WT m) (hc : HC 21 m g) (hE : EC m v) : Ct ad μX11_judge (d + 6) [.ref (ad 0), .int x1, .int x2] m (jcQ v m (jdA v x1 x2 g)) := by
  refine v_X11_judge (d := d + 5) ⟨fun c => ⟨w, Fx.rf, ?_⟩, fun c => ⟨fun c2 => (copyC (d := d + 4) w SS_26 SS_21 (Or.inl (by decide)) hc).to ?_, fun c2 => ⟨w, Fx.rf, ?_⟩⟩⟩
  · have := y_ltr (n := 0) rfl c
    unfold jdA
    rw [if_neg (by omega)]
  · have k0 := y_nltr (n := 0) rfl c
    have k3 := y_ler (n := 3) rfl c2
    obtain ⟨N, hN, rfl⟩ := zn_of k0
    rintro _ m1 ⟨rfl, w1, f1, h1⟩
    have ej : jdA v (nI N) x2 g = jdF v (cdG x2) N 0 g := by
      unfold jdA
      rw [if_pos ⟨k0, k3⟩, nI_clamp hN]
    rw [nI_toInt hN] at k3
    rw [ej]
    exact ⟨rfl, jc_28 (d := d) (by omega) hE N 0 g m1 (by omega) w1 (Fx.tr Fx.rf f1 (RS_sub rfl)) h1⟩
  · have := y_nler (n := 3) rfl c2
    unfold jdA
    rw [if_neg (by omega)]
end JDG
/-! CALLS: judge, the model; both -/
section JDM
variable {ad : Nat → Nat} {d : Nat} {m m0 : Wm} {g : GS} {v : EV} {H : List GS}
theorem goG_jd {c : Nat} : GE (jdS v c g) (goG false v (c / 10 % 10) (c % 10) (nI (c / 100)) g) := by
  have nb : ¬ byG false v (nI (c / 100)) := fun z => absurd z.1 (by decide)
  unfold jdS goG wonG drwG
  rw [if_neg nb, if_neg nb]
  exact stlG_E ⟨rfl, rfl, rfl⟩
def jmQ (v : EV) (m : Wm) (g : GS) (a : Int32) (r : Option Value) (m' : Wm) : Prop := WT m' ∧ Fx (RS [20, 22, 24, 26, 28, 30, 49]) m m' ∧ HM (nE v) m' g ∧ r = some (.int a)
theorem jm_138 {a x3 : Int32} {m1 : Wm} (w1 : WT m1) (f1 : Fx (RS [20, 22, 24, 26, 28, 30, 49]) m0 m1) (hL : HL (nE v) 202 0 m1 g) : AW ad E0 μX12_judge (d + 171) (jmQ v m0 g a) 138 [(0, .ref (ad 187)), (3, .int x3), (4, .int a)] [] m1 := by
  refine g_X12_judge_138 (d := d + 170) ((s_X12_sumOfAll (d := d + 169) w1).to ?_)
  rintro _ m2 ⟨w2, f2, v2, rfl⟩
  refine ⟨v2, rfl, (bringH (x := 0) (na := 57) rfl (by decide) (by decide) w2 (hL.fx (ρ := 30) f2 (fun _ => rfl) rfl) (by decide)).to ?_⟩
  rintro _ m3 ⟨rfl, w3, f3, hm3⟩
  have w4 : WT (uI m3 187 16 (0 : Int32)) := w3.t rfl (by decide) (by decide)
  have f4 : Fx (RS [26]) m3 (uI m3 187 16 (0 : Int32)) := Fx.rf.i rfl
  have e16 : ((uI m3 187 16 (0 : Int32)).1 187 16).toInt = 0 := by
    rw [u_eq]
    rfl
  refine ⟨rfl, (s_X12_tell w4 (by omega)).to ?_⟩
  rintro _ m5 ⟨w5, f5, rfl, -⟩
  exact ⟨rfl, w5, (((f1.tr f2 (RS_sub rfl)).tr f3 (RS_sub rfl)).tr f4 (RS_sub rfl)).tr f5 (RS_sub rfl), (hm3.fx f4 rfl rfl).fx f5 rfl rfl, rfl⟩
set_option maxHeartbeats 1000000 in
theorem jm_40 {x2 x3 : Int32} {N : Nat} (hN : N ≤ 3) (n8 : nE v ≤ 8) : ∀ (j k : Nat) (gM : GS) (m1 : Wm), k + j = N → WT m1 → Fx (RS [20, 22, 24, 26, 28, 30, 49]) m0 m1 → HM (nE v) m1 gM → EM m1 v → HL (nE v) 202 0 m1 g → AW ad E0 μX12_judge (d + 171) (jmQ v m0 g (jdF v (cdG x2) j k gM)) 40 [(0, .ref (ad 187)), (1, .int (nI N)), (2, .int x2), (3, .int x3), (4, .int (-2)), (5, .int (nI k))] [] m1 := by
  intro j
  induction j with
  | zero =>
    intro k gM m1 hk w1 f1 hm em hL
    exact g_X12_judge_40 (d := d + 170) ⟨fun _ => jm_138 w1 f1 hL, fun c => absurd ((nI_leI (a := N) (b := k) (by omega) (by omega)).mpr (by omega)) c⟩
  | succ j ih =>
    intro k gM m1 hk w1 f1 hm em hL
    have e2 := (cd_eq x2 k).2
    have bad : ¬ jOK (nE v) (cdG x2 k) → AW ad E0 μX12_judge (d + 171) (jmQ v m0 g (jdF v (cdG x2) (j + 1) k gM)) 40 [(0, .ref (ad 187)), (1, .int (nI N)), (2, .int x2), (3, .int x3), (4, .int (nI k)), (5, .int (nI k + (1 : Int32)))] [] m1 := fun hj => by
      have e3 : jdF v (cdG x2) (j + 1) k gM = nI k := if_neg hj
      rw [e3, nI_1]
      refine g_X12_judge_40 (d := d + 170) ⟨fun _ => jm_138 w1 f1 hL, fun _ => ⟨fun _ => jm_138 w1 f1 hL, fun z => ?_⟩⟩
      have h3 := congrArg Int32.toInt z
      rw [nI_toInt (by omega)] at h3
      have z2 : (-2 : Int32).toInt = -2 := rfl
      omega
    refine g_X12_judge_40 (d := d + 170) ⟨fun c => absurd ((nI_leI (a := N) (b := k) (by omega) (by omega)).mp c) (by omega), fun _ => ⟨fun c => absurd rfl c, fun _ => ?_⟩⟩
    rw [l_mul 10 10 rfl, cd_M x2 (k := k) (by omega), rem10 (by omega), dv10 (by omega), rem10 (by omega), dv100 (by omega)]
    refine ⟨fun c2 => bad (fun q => ?_), fun c2 => (twoM (d := d + 168) em.1 n8).to ?_⟩
    · have := (lt_l 2 2 rfl (by decide) (by omega)).mp c2
      have := q.1
      omega
    · have k2 : cdG x2 k / 100 ≤ 2 := Nat.le_of_not_lt (fun z => c2 ((lt_l 2 2 rfl (by decide) (by omega)).mpr z))
      rintro _ m2 ⟨eq, v2, rfl, y1, y2⟩
      obtain rfl := eq.symm
      refine ⟨v2, rfl, fun q => bad (fun z => ?_), fun q => ⟨fun c3 => ?_, fun c3 => bad (fun z => ?_)⟩⟩
      · have z2 := z.2.1
        have z3 := z.2.2
        exact y1 q ⟨InN.nI (by omega) (by omega), InN.nI z3 (by omega), nI_r (by omega) (by omega) (by omega)⟩
      · have hT := (y2 q).2.1.2
        rw [nI_toInt (by omega)] at hT
        have k3 := (nI_leI (a := cdG x2 k / 10 % 10) (b := cdG x2 k % 10) (by omega) (by omega)).mp c3
        have k4 : cdG x2 k / 10 % 10 ≠ cdG x2 k % 10 := fun z => (y2 q).2.2 (by rw [z])
        have hj : jOK (nE v) (cdG x2 k) := ⟨k2, by omega, by omega⟩
        refine (goGameM (d := d) (lk := false) w1 hm em (a := cdG x2 k / 10 % 10) (e := cdG x2 k % 10) (by omega) (by omega) k4 (th_of k2) (by decide)).to ?_
        rintro _ m3 ⟨w3, f3, rfl, hm3⟩
        refine ⟨_, rfl, ?_⟩
        have e3 : jdF v (cdG x2) (j + 1) k gM = jdF v (cdG x2) j (k + 1) (jdS v (cdG x2 k) gM) := if_pos hj
        rw [e3, jdF_E j (k + 1) _ _ goG_jd, nI_1]
        exact ih (k + 1) _ m3 (by omega) w3 (f1.tr f3 (RS_sub rfl)) hm3 (em.fx f3 rfl) (hL.fx (ρ := 30) f3 (fun _ => rfl) rfl)
      · have z2 := z.2.1
        exact c3 ((nI_leI (a := cdG x2 k / 10 % 10) (b := cdG x2 k % 10) (by omega) (by omega)).mpr (by omega))
theorem e_judgeM {x1 x2 : Int32} (w : WT m) (hm : HM (nE v) m g) (em : EM m v) (n8 : nE v ≤ 8) : Ct ad μX12_judge (d + 171) [.ref (ad 187), .int x1, .int x2] m (jmQ v m g (jdA v x1 x2 g)) := by
  have w0 : WT (uI m 187 17 0) := w.n rfl
  have f0 : Fx (RS [20]) m (uI m 187 17 0) := Fx.rf.i rfl
  have em0 : EM (uI m 187 17 0) v := em.fx f0 rfl
  have hm0 : HM (nE v) (uI m 187 17 0) g := hm
  have z3 : (3 : Int32).toInt = 3 := rfl
  have z0 : (0 : Int32).toInt = 0 := rfl
  refine v_X12_judge (d := d + 170) ((inM (x := x1) (lo := 0) (hi := 3) rfl rfl).to ?_)
  rintro _ m1 ⟨eq, v1, rfl, y1, y2⟩
  obtain rfl := eq.symm
  refine ⟨v1, rfl, fun q => ?_, fun q => ⟨w0, Fx.tr Fx.rf f0 (RS_sub rfl), hm0, ?_⟩⟩
  · have y3 := y2 q
    obtain ⟨N, hN, rfl⟩ := zn_of (x := x1) (by omega)
    have ej : jdA v (nI N) x2 g = jdF v (cdG x2) N 0 g := by
      unfold jdA
      rw [if_pos (by omega), nI_clamp hN]
    rw [nI_toInt hN] at y3
    rw [ej]
    refine (layH (x := 0) (na := 57) (reg := 30) rfl (by decide) (by decide) (fun _ => rfl) (fun _ => rfl) w0 hm0 n8 (by decide)).to ?_
    rintro _ m3 ⟨rfl, w3, f3, hL3, -, -⟩
    refine ⟨rfl, (s_X12_sumOfAll (d := d + 169) w3).to ?_⟩
    rintro _ m4 ⟨w4, f4, v4, rfl⟩
    exact ⟨v4, rfl, jm_40 (d := d) (m0 := m) (by omega) n8 N 0 g m4 (by omega) w4 (((Fx.tr Fx.rf f0 (RS_sub rfl)).tr f3 (RS_sub rfl)).tr f4 (RS_sub rfl)) ((hm0.fx f3 rfl rfl).fx f4 rfl rfl) ((em0.fx f3 rfl).fx f4 rfl) (hL3.fx (ρ := 30) f4 (fun _ => rfl) rfl)⟩
  · unfold jdA
    rw [if_neg (fun z => y1 q (by omega))]
theorem og_judge (c : Nat) (a b : Int32) : Both ad d μX11_judge μX12_judge [.int a, .int b] (InvK (KX KG c)) (InvK (KX KG (c + 1))) := fun m I => by
  obtain ⟨w, I1, ⟨g, v, H, kd⟩, kb⟩ := I
  have n8 := kd.2.2.1.2.2.1
  refine (e_judgeC (d := d + 294) w kd.1 kd.2.2.1).to ?_
  rintro _ m1 ⟨w1, f1, rfl⟩
  have kd1 := kd.fx f1 rfl
  refine ⟨_, rfl, (e_judgeM (d := d + 129) (x1 := a) (x2 := b) w1 kd1.2.1 kd1.2.2.2.1 n8).to ?_⟩
  rintro _ m2 ⟨w2, f2, hm2, rfl⟩
  exact ⟨rfl, w2, I1.f2 f1 f2 rfl rfl, ⟨g, v, H, kd1.hms f2 rfl hm2⟩, KB.fd c f1 f2 kb rfl rfl⟩
end JDM
/-! CALLS: game -/
section GME
variable {ad : Nat → Nat} {d : Nat} {m m0 : Wm} {g : GS} {v : EV} {H : List GS}
def gmQ (m : Wm) (a : Int32) (r : Option Value) (m' : Wm) : Prop := WT m' ∧ Fx (RS [20, 22, 26, 28]) m m' ∧ r = some (.int a)
theorem gm_150 {x4 x5 x6 : Int32} (w : WT m) (f : Fx (RS [20, 22, 26, 28]) m0 m) (h16 : (m.1 187 16).toInt = 0) : AW ad E0 μX12_game (d + 300) (gmQ m0 x4) 150 [(0, .ref (ad 187)), (4, .int x4), (5, .int x5), (6, .int x6)] [] m := by
  refine g_X12_game_150 (d := d + 299) ((s_X12_tell w (by omega)).to ?_)
  rintro _ m1 ⟨w1, f1, rfl, p1⟩
  have p1' : (m1.1 187 16).toInt = (m.1 187 16).toInt + 1 := p1
  refine ⟨rfl, (s_X12_tell w1 (by omega)).to ?_⟩
  rintro _ m2 ⟨w2, f2, rfl, -⟩
  exact ⟨rfl, w2, (f.tr f1 (RS_sub rfl)).tr f2 (RS_sub rfl), rfl⟩
theorem gm_116 {x4 : Int32} {s t : Nat} (w : WT m) (f : Fx (RS [20, 22, 26, 28]) m0 m) (h16 : (m.1 187 16).toInt = 0) (hm : HM (nE v) m g) (em : EM m v) (hs : s < nE v) (ht : t < nE v) : AW ad E0 μX12_game (d + 300) (gmQ m0 x4) 116 [(0, .ref (ad 187)), (4, .int x4), (8, .int (nI s))] [.int (nI t)] m := by
  have a4 := em.2.2.2.1
  refine g_X12_game_116 (d := d + 299) ((artM (d := d + 299) hm em hs ht).to ?_)
  rintro _ m1 ⟨eq, rfl⟩
  obtain rfl := eq.symm
  refine ⟨_, rfl, fun c => ?_, fun _ => gm_150 w f h16⟩
  rcases artG_of (s := g.1) (f := s) (t := t) (n := aE v) with q | ⟨a, ha, q⟩
  · exact absurd q c
  · rw [q]
    refine (gainM (d := d + 298) hm em hs ht (a := a) (by omega)).to ?_
    rintro _ m1 ⟨eq, rfl⟩
    obtain rfl := eq.symm
    exact ⟨_, rfl, gm_150 w f h16⟩
theorem gm_92 {x4 s0 : Int32} {s t : Nat} (w : WT m) (f : Fx (RS [20, 22, 26, 28]) m0 m) (h16 : (m.1 187 16).toInt = 0) (hm : HM (nE v) m g) (em : EM m v) (hs : s < nE v) (ht : t < nE v) : AW ad E0 μX12_game (d + 300) (gmQ m0 x4) 92 [(0, .ref (ad 187)), (1, .int (nI s)), (2, .int (nI t)), (4, .int x4)] [.int s0] m :=
  g_X12_game_92 (d := d + 299) ⟨fun q => ⟨fun _ => gm_116 w f h16 hm em ht hs, fun z => absurd q z⟩, fun q => ⟨fun z => absurd z q, fun _ => gm_116 w f h16 hm em hs ht⟩⟩
theorem gm_69 {x4 s0 : Int32} {s t : Nat} (w : WT m) (f : Fx (RS [20, 22, 26, 28]) m0 m) (h16 : (m.1 187 16).toInt = 0) (hm : HM (nE v) m g) (em : EM m v) (hs : s < nE v) (ht : t < nE v) : AW ad E0 μX12_game (d + 300) (gmQ m0 x4) 69 [(0, .ref (ad 187)), (1, .int (nI s)), (2, .int (nI t)), (4, .int x4)] [.int s0] m :=
  g_X12_game_69 (d := d + 299) ⟨fun _ => ⟨fun _ => gm_92 w f h16 hm em hs ht, fun _ => gm_92 w f h16 hm em hs ht⟩, fun _ => ⟨fun _ => gm_92 w f h16 hm em hs ht, fun _ => gm_92 w f h16 hm em hs ht⟩⟩
theorem e_gameM {s t : Nat} {th : Int32} (w : WT m) (hm : HM (nE v) m g) (em : EM m v) (hs : s < nE v) (ht : t < nE v) (hst : s ≠ t) (hth : 0 ≤ th.toInt ∧ th.toInt ≤ 3) : Ct ad μX12_game (d + 300) [.ref (ad 187), .int (nI s), .int (nI t), .int th] m (gmQ m (wnG v g s t th)) := by
  have n8 := em.2.2.1
  have w0 : WT (uI m 187 17 0) := w.n rfl
  have f0 : Fx (RS [20]) m (uI m 187 17 0) := Fx.rf.i rfl
  have em0 : EM (uI m 187 17 0) v := em.fx f0 rfl
  have hm0 : HM (nE v) (uI m 187 17 0) g := hm
  have P : Two (nE v) (nI s) (nI t) := ⟨InN.nI hs (by omega), InN.nI ht (by omega), nI_r (by omega) (by omega) hst⟩
  refine v_X12_game (d := d + 299) ((twoM (d := d + 297) em0.1 n8).to ?_)
  rintro _ m1 ⟨eq, v1, rfl, y1, y2⟩
  obtain rfl := eq.symm
  refine ⟨v1, rfl, fun z => absurd P (y1 z), fun _ => (thrM (d := d + 298)).to ?_⟩
  rintro _ m1 ⟨eq, v2, rfl, y3, y4⟩
  obtain rfl := eq.symm
  refine ⟨v2, rfl, fun _ => (winnerM (d := d + 130) w0 hm0 em0 hs ht).to ?_, fun z => absurd hth (y3 z)⟩
  rintro _ m2 ⟨w2, f2, rfl⟩
  have w3 : WT (uI m2 187 16 (0 : Int32)) := w2.t rfl (by decide) (by decide)
  have f3 : Fx (RS [26]) m2 (uI m2 187 16 (0 : Int32)) := Fx.rf.i rfl
  have F : Fx (RS [20, 22, 26, 28]) m (uI m2 187 16 (0 : Int32)) := ((Fx.tr Fx.rf f0 (RS_sub rfl)).tr f2 (RS_sub rfl)).tr f3 (RS_sub rfl)
  have h16 : ((uI m2 187 16 (0 : Int32)).1 187 16).toInt = 0 := by
    rw [u_eq]
    rfl
  have hm3 : HM (nE v) (uI m2 187 16 (0 : Int32)) g := (hm0.fx f2 rfl rfl).fx f3 rfl rfl
  have em3 : EM (uI m2 187 16 (0 : Int32)) v := (em0.fx f2 rfl).fx f3 rfl
  exact ⟨_, rfl, fun _ => gm_150 w3 F h16, fun _ => ⟨fun _ => gm_150 w3 F h16, fun _ => ⟨fun _ => gm_69 w3 F h16 hm3 em3 hs ht, fun _ => gm_69 w3 F h16 hm3 em3 hs ht⟩⟩⟩
theorem og_game (c : Nat) (a b th : Int32) : Both ad d μX11_game μX12_game [.int a, .int b, .int th] (InvK (KX KG c)) (InvK (KX KG (c + 1))) := fun m I => by
  have J := J17 I
  obtain ⟨w, I1, ⟨g, v, H, kd⟩, kb⟩ := I
  have kd0 := kd
  obtain ⟨hc, hm, ec, em, -⟩ := kd0
  have n8 := ec.2.2.1
  have z3 : (3 : Int32).toInt = 3 := rfl
  by_cases P : Two (nE v) a b ∧ (0 ≤ th.toInt ∧ th.toInt ≤ 3)
  · obtain ⟨P1, P2⟩ := P
    have P0 := P1
    obtain ⟨s, hs, rfl⟩ := P1.1.of
    obtain ⟨t, ht, rfl⟩ := P1.2.1.of
    have hst : s ≠ t := fun q => P1.2.2 (by rw [q])
    have hth := thr_of P2
    have hG : GR 5 := Or.inr (Or.inr (Or.inl rfl))
    refine v_X11_game (d := d + 299) ((meetC (d := d + 298) ec.1 n8).to ?_)
    rintro _ m1 ⟨eq, v1, rfl, y1, y2⟩
    obtain rfl := eq.symm
    refine ⟨v1, rfl, fun z => absurd P0 (y1 z), fun _ => ⟨fun q => absurd (y_ltr (n := 0) rfl q) (by omega), fun _ => ⟨fun _ => (copyC (d := d + 298) w SS_26 SS_21 (Or.inl (by decide)) hc).to ?_, fun q => absurd (z_nle q) (by omega)⟩⟩⟩
    rintro _ m1 ⟨rfl, w1, f1, h1⟩
    refine ⟨rfl, (resultC (d := d + 295) SS_26 hG w1 h1 (ec.fx f1 rfl) (by omega) (by omega) hth).to ?_⟩
    rintro _ m2 ⟨w2, f2, rfl⟩
    refine ⟨_, rfl, (settleC (d := d + 296) (cn := false) SS_26 hG w2 (h1.fx SS_26 f2 rfl) ((ec.fx f1 rfl).fx f2 rfl) (by omega) (by omega) hst (by decide)).to ?_⟩
    rintro _ m3 ⟨rfl, w3, f3, -⟩
    refine ⟨rfl, (s_X11_tell_ w3).to ?_⟩
    rintro _ m4 ⟨w4, f4, rfl⟩
    have F : Fx (RS [2, 5, 9, 14]) m m4 := (((Fx.tr Fx.rf f1 (RS_sub rfl)).tr f2 (RS_sub rfl)).tr f3 (RS_sub rfl)).tr f4 (RS_sub rfl)
    have kd4 := kd.fx F rfl
    refine ⟨rfl, _, rfl, (e_gameM (d := d) w4 kd4.2.1 kd4.2.2.2.1 hs ht hst P2).to ?_⟩
    rintro _ m5 ⟨w5, f5, rfl⟩
    exact ⟨rfl, w5, I1.f2 F f5 rfl rfl, ⟨g, v, H, kd4.fx f5 rfl⟩, KB.fd c F f5 kb rfl rfl⟩
  · have e1 : (uI m 187 17 0).1 187 1 = nI (nE v) := em.1
    have hM : Ct ad μX12_game (d + 300) [.ref (ad 187), .int a, .int b, .int th] m (fun r m2 => r = some (.int (-1)) ∧ InvK (KX KG (c + 1)) m2) := by
      refine v_X12_game (d := d + 299) ((twoM (d := d + 297) e1 n8).to ?_)
      rintro _ m2 ⟨eq, v3, rfl, x1, x2⟩
      obtain rfl := eq.symm
      refine ⟨v3, rfl, fun _ => ⟨rfl, J⟩, fun q => (thrM (d := d + 298)).to ?_⟩
      rintro _ m2 ⟨eq, v4, rfl, x3, x4⟩
      obtain rfl := eq.symm
      exact ⟨v4, rfl, fun q2 => absurd ⟨x2 q, x4 q2⟩ P, fun _ => ⟨rfl, J⟩⟩
    refine v_X11_game (d := d + 299) ((meetC (d := d + 298) ec.1 n8).to ?_)
    rintro _ m1 ⟨eq, v1, rfl, y1, y2⟩
    obtain rfl := eq.symm
    refine ⟨v1, rfl, fun z => ⟨_, rfl, hM⟩, fun q => ⟨fun _ => ⟨_, rfl, hM⟩, fun q2 => ⟨fun q3 => absurd ⟨y2 q, ?_⟩ P, fun _ => ⟨_, rfl, hM⟩⟩⟩⟩
    have := y_nltr (n := 0) rfl q2
    have := z_le q3
    omega
end GME
/-! CALLS: prize, master -/
/-- the first of those with the most -/
def bsF (f : Nat → Int32) : Nat → Nat
  | 0 => 0
  | k + 1 => if f k ≤ f (bsF f k) then bsF f k else k
theorem bsF_lt {f : Nat → Int32} {n : Nat} (hn : 0 < n) : ∀ k, k ≤ n → bsF f k < n := by
  intro k
  induction k with
  | zero => intro _; exact hn
  | succ k ih =>
    intro h
    have e : bsF f (k + 1) = if f k ≤ f (bsF f k) then bsF f k else k := rfl
    rw [e]
    by_cases c : f k ≤ f (bsF f k)
    · rw [if_pos c]
      exact ih (by omega)
    · rw [if_neg c]
      omega
theorem bsF_p {f : Nat → Int32} {k : Nat} (c : f k ≤ f (bsF f k)) : bsF f (k + 1) = bsF f k := if_pos c
theorem bsF_n {f : Nat → Int32} {k : Nat} (c : ¬ f k ≤ f (bsF f k)) : bsF f (k + 1) = k := if_neg c
section PRZ
variable {ad : Nat → Nat} {d n : Nat} {m : Wm} {g : GS} {v : EV} {H : List GS}
theorem inN_of {n : Nat} {x : Int32} (h : InN n x) : 0 ≤ x.toInt ∧ x.toInt < n := h
theorem ninN_of {n : Nat} {x : Int32} (h : ¬ InN n x) : ¬ (0 ≤ x.toInt ∧ x.toInt < n) := h
def przA (n : Nat) (g : GS) : Int32 := if n = 0 then -2 else nI (bsF g.2.2.1 n)
theorem e_prizeC (w : WT m) (hc : HC 21 m g) (hn : m.1 3 3 = nI n) (n8 : n ≤ 8) : Ct ad μX11_prize (d + 1) [.ref (ad 0)] m (fun r m' => WT m' ∧ Fx (RS [9]) m m' ∧ r = some (.int (przA n g))) := by
  refine v_X11_prize ⟨fun c => ?_, fun c => ⟨w, Fx.rf, ?_⟩⟩
  · have hn0 : 0 < n := Nat.pos_of_ne_zero (fun z => c (by rw [hn, z]; rfl))
    have ea : przA n g = nI (bsF g.2.2.1 n) := if_neg (by omega)
    have L : ∀ (j k : Nat) (x2 : Int32), k + j = n → AW ad E0 μX11_prize (d + 1) (fun r m' => WT m' ∧ Fx (RS [9]) m m' ∧ r = some (.int (przA n g))) 19 [(0, .ref (ad 0)), (1, .int (nI (bsF g.2.2.1 k))), (2, .int x2), (3, .int (nI k))] [] m := by
      intro j
      induction j with
      | zero =>
        intro k x2 hk
        obtain rfl : k = n := hk
        have hb := bsF_lt (f := g.2.2.1) hn0 k (Nat.le_refl _)
        refine g_X11_prize_19 ⟨fun _ => ⟨nat_in (by omega) (by decide), (s_X11_tell_ w).to ?_⟩, fun z => absurd (by rw [hn]; exact (nI_leI (a := k) (b := k) (by omega) (by omega)).mpr (Nat.le_refl _)) z⟩
        rintro _ m1 ⟨w1, f1, rfl⟩
        exact ⟨rfl, w1, f1, by rw [ea]⟩
      | succ j ih =>
        intro k x2 hk
        have hb := bsF_lt (f := g.2.2.1) hn0 k (by omega)
        have e1 : m.1 24 k = g.2.2.1 k := hc.2.2.1 k (by omega)
        have e2 : m.1 24 (bsF g.2.2.1 k) = g.2.2.1 (bsF g.2.2.1 k) := hc.2.2.1 _ (by omega)
        refine g_X11_prize_19 ⟨fun z => absurd (by rw [hn] at z; exact (nI_leI (a := n) (b := k) (by omega) (by omega)).mp z) (by omega), fun _ => ?_⟩
        rw [nI_clamp (by omega), nI_clamp (by omega), e1, e2, nI_1]
        refine ⟨nat_in (by omega) (by decide), nat_in (by omega) (by decide), nat_in (by omega) (by decide), fun q => ?_, fun q => ?_⟩
        · have := ih (k + 1) (x2 + g.2.2.1 k) (by omega)
          rw [bsF_p q] at this
          exact this
        · have := ih (k + 1) (x2 + g.2.2.1 k) (by omega)
          rw [bsF_n q] at this
          exact this
    exact L n 0 0 (by omega)
  · have hn0 : n = 0 := (nI_eq (a := n) (b := 0) (by omega) (by omega)).mp (hn.symm.trans c)
    unfold przA
    rw [if_pos hn0]
theorem e_prizeM (w : WT m) (hm : HM n m g) (hn : m.1 187 1 = nI n) (n8 : n ≤ 8) : Ct ad μX12_prize (d + 1) [.ref (ad 187)] m (fun r m' => WT m' ∧ Fx (RS [20, 26]) m m' ∧ r = some (.int (przA n g))) := by
  have w0 : WT (uI m 187 17 0) := w.n rfl
  have f0 : Fx (RS [20, 26]) m (uI m 187 17 0) := Fx.rf.i rfl
  have s0 : (uI m 187 17 0).1 187 1 = nI n := hn
  have hm0 : HM n (uI m 187 17 0) g := hm
  refine v_X12_prize ?_
  generalize uI m 187 17 0 = m1 at w0 f0 s0 hm0 ⊢
  refine ⟨fun c => ?_, fun c => ⟨w0, f0, ?_⟩⟩
  · have hn0 : 0 < n := Nat.pos_of_ne_zero (fun z => c (by rw [s0, z]; rfl))
    have ea : przA n g = nI (bsF g.2.2.1 n) := if_neg (by omega)
    have L : ∀ (j k : Nat) (x2 : Int32), k + j = n → AW ad E0 μX12_prize (d + 1) (fun r m' => WT m' ∧ Fx (RS [20, 26]) m m' ∧ r = some (.int (przA n g))) 21 [(0, .ref (ad 187)), (1, .int (nI (bsF g.2.2.1 k))), (2, .int x2), (3, .int (nI k))] [] m1 := by
      intro j
      induction j with
      | zero =>
        intro k x2 hk
        obtain rfl : k = n := hk
        have hb := bsF_lt (f := g.2.2.1) hn0 k (Nat.le_refl _)
        have w2 : WT (uI m1 187 16 (0 : Int32)) := w0.t rfl (by decide) (by decide)
        have e16 : ((uI m1 187 16 (0 : Int32)).1 187 16).toInt = 0 := by
          rw [u_eq]
          rfl
        refine g_X12_prize_21 ⟨fun _ => ⟨nat_in (by omega) (by decide), (s_X12_tell w2 (by omega)).to ?_⟩, fun z => absurd (by rw [s0]; exact (nI_leI (a := k) (b := k) (by omega) (by omega)).mpr (Nat.le_refl _)) z⟩
        rintro _ m3 ⟨w3, f3, rfl, p3⟩
        have p3' : (m3.1 187 16).toInt = ((uI m1 187 16 (0 : Int32)).1 187 16).toInt + 1 := p3
        refine ⟨rfl, (s_X12_tell w3 (by omega)).to ?_⟩
        rintro _ m4 ⟨w4, f4, rfl, -⟩
        exact ⟨rfl, w4, ((f0.i rfl).tr f3 (RS_sub rfl)).tr f4 (RS_sub rfl), by rw [ea]⟩
      | succ j ih =>
        intro k x2 hk
        have hb := bsF_lt (f := g.2.2.1) hn0 k (by omega)
        have e1 : m1.1 191 k = g.2.2.1 k := hm0.2.2.1 k (by omega)
        have e2 : m1.1 191 (bsF g.2.2.1 k) = g.2.2.1 (bsF g.2.2.1 k) := hm0.2.2.1 _ (by omega)
        refine g_X12_prize_21 ⟨fun z => absurd (by rw [s0] at z; exact (nI_leI (a := n) (b := k) (by omega) (by omega)).mp z) (by omega), fun _ => ?_⟩
        rw [nI_clamp (by omega), nI_clamp (by omega), e1, e2, nI_1]
        refine ⟨nat_in (by omega) (by decide), nat_in (by omega) (by decide), nat_in (by omega) (by decide), fun q => ?_, fun q => ?_⟩
        · have := ih (k + 1) (x2 + g.2.2.1 k) (by omega)
          rw [bsF_p q] at this
          exact this
        · have := ih (k + 1) (x2 + g.2.2.1 k) (by omega)
          rw [bsF_n q] at this
          exact this
    exact L n 0 0 (by omega)
  · have hn0 : n = 0 := (nI_eq (a := n) (b := 0) (by omega) (by omega)).mp (s0.symm.trans c)
    unfold przA
    rw [if_pos hn0]
/-- a call that both sides answer out of what stands, and that leaves it so -/
theorem og_s {μ μ' : MI} {as : List Value} {c : Nat} {A B : List Nat} (hS : ∀ m g v H, WT m → KGd m g v H → ∃ x : Int32, Ct ad μ (d + 300) (.ref (ad 0) :: as) m (fun r m1 => WT m1 ∧ Fx (RS A) m m1 ∧ r = some (.int x)) ∧ ∀ m1, WT m1 → KGd m1 g v H → Ct ad μ' (d + 300) (.ref (ad 187) :: as) m1 (fun r m2 => WT m2 ∧ Fx (RS B) m1 m2 ∧ r = some (.int x)))
    (a1 : (A.all fun x => !(KGL.elem x)) = true) (a2 : (A.all fun x => !(IL.elem x)) = true) (a3 : (A.all fun x => !(KLB.elem x)) = true)
    (b1 : (B.all fun x => !(KGL.elem x)) = true) (b2 : (B.all fun x => !(IL.elem x)) = true) (b3 : (B.all fun x => !(KLB.elem x)) = true) : Both ad d μ μ' as (InvK (KX KG c)) (InvK (KX KG (c + 1))) := fun m I => by
  obtain ⟨w, I1, ⟨g, v, H, kd⟩, kb⟩ := I
  obtain ⟨x, hC, hM⟩ := hS m g v H w kd
  refine hC.to ?_
  rintro _ m1 ⟨w1, f1, rfl⟩
  have kd1 := kd.fx f1 a1
  refine ⟨x, rfl, (hM m1 w1 kd1).to ?_⟩
  rintro _ m2 ⟨w2, f2, rfl⟩
  exact ⟨rfl, w2, I1.f2 f1 f2 a2 b2, ⟨g, v, H, kd1.fx f2 b1⟩, KB.fd c f1 f2 kb a3 b3⟩
theorem og_prize (c : Nat) : Both ad d μX11_prize μX12_prize [] (InvK (KX KG c)) (InvK (KX KG (c + 1))) := og_s (A := [9]) (B := [20, 26]) (fun m g v H w kd => ⟨przA (nE v) g, e_prizeC (d := d + 299) w kd.1 kd.2.2.1.1 kd.2.2.1.2.2.1, fun m1 w1 kd1 => e_prizeM (d := d + 299) w1 kd1.2.1 kd1.2.2.2.1.1 kd1.2.2.1.2.2.1⟩) rfl rfl rfl rfl rfl rfl
/-- the art a, of side s -/
def aG (g : GS) (a s : Nat) : Int32 := g.1 (4 * s + a)
def mstA (n ar : Nat) (x : Int32) (g : GS) : Int32 := if 0 ≤ x.toInt ∧ x.toInt < ar then (if n = 0 then -2 else nI (bsF (aG g x.toNatClampNeg) n)) else -1
theorem e_masterC {ar : Nat} {x1 : Int32} (w : WT m) (hc : HC 21 m g) (hn : m.1 3 3 = nI n) (n8 : n ≤ 8) (ha : m.1 3 4 = nI ar) (a4 : ar ≤ 4) : Ct ad μX11_master (d + 2) [.ref (ad 0), .int x1] m (fun r m' => WT m' ∧ Fx (RS [9]) m m' ∧ r = some (.int (mstA n ar x1 g))) := by
  refine v_X11_master (d := d + 1) ((knowsC (d := d + 1) ha (by omega)).to ?_)
  rintro _ m1 ⟨eq, v1, rfl, y1, y2⟩
  obtain rfl := eq.symm
  refine ⟨v1, rfl, fun q => ?_, fun q => ⟨w, Fx.rf, ?_⟩⟩
  · have hI := y2 q
    obtain ⟨a, ha2, rfl⟩ := hI.of
    refine ⟨fun c => ?_, fun c => ⟨w, Fx.rf, ?_⟩⟩
    · have hn0 : 0 < n := Nat.pos_of_ne_zero (fun z => c (by rw [hn, z]; rfl))
      have ea : mstA n ar (nI a) g = nI (bsF (aG g a) n) := by
        unfold mstA
        rw [if_pos (inN_of hI), if_neg (by omega), nI_clamp (by omega)]
      have hb := bsF_lt (f := aG g a) hn0 n (Nat.le_refl _)
      have L2 : ∀ (x3 x4 : Int32) (j k : Nat) (x5 : Int32), k + j = n → AW ad E0 μX11_master (d + 2) (fun r m' => WT m' ∧ Fx (RS [9]) m m' ∧ r = some (.int (mstA n ar (nI a) g))) 105 [(0, .ref (ad 0)), (1, .int (nI a)), (2, .int (nI (bsF (aG g a) n))), (3, .int x3), (4, .int x4), (5, .int x5), (6, .int (nI k))] [] m := by
        intro x3 x4 j
        induction j with
        | zero =>
          intro k x5 hk
          refine g_X11_master_105 (d := d + 1) ⟨fun _ => (s_X11_tell__ w).to ?_, fun z => absurd (by rw [hn]; exact (nI_leI (a := n) (b := k) (by omega) (by omega)).mpr (by omega)) z⟩
          rintro _ m1 ⟨w1, f1, rfl⟩
          exact ⟨rfl, w1, f1, by rw [ea]⟩
        | succ j ih =>
          intro k x5 hk
          refine g_X11_master_105 (d := d + 1) ⟨fun z => absurd (by rw [hn] at z; exact (nI_leI (a := n) (b := k) (by omega) (by omega)).mp z) (by omega), fun _ => (skillC (d := d + 1) (s := k) SS_21 hc (a := a) (by omega) (by omega)).to ?_⟩
          rintro _ m1 ⟨eq, rfl⟩
          obtain rfl := eq.symm
          rw [nI_1]
          exact ⟨_, rfl, fun _ => ih (k + 1) _ (by omega), fun _ => ih (k + 1) _ (by omega)⟩
      have L : ∀ (j k : Nat) (x3 : Int32), k + j = n → AW ad E0 μX11_master (d + 2) (fun r m' => WT m' ∧ Fx (RS [9]) m m' ∧ r = some (.int (mstA n ar (nI a) g))) 34 [(0, .ref (ad 0)), (1, .int (nI a)), (2, .int (nI (bsF (aG g a) k))), (3, .int x3), (4, .int (nI k))] [] m := by
        intro j
        induction j with
        | zero =>
          intro k x3 hk
          obtain rfl : k = n := hk
          refine g_X11_master_34 (d := d + 1) ⟨fun _ => (skillC (d := d + 1) (s := bsF (aG g a) k) SS_21 hc (a := a) (by omega) (by omega)).to ?_, fun z => absurd (by rw [hn]; exact (nI_leI (a := k) (b := k) (by omega) (by omega)).mpr (Nat.le_refl _)) z⟩
          rintro _ m1 ⟨eq, rfl⟩
          obtain rfl := eq.symm
          exact ⟨_, rfl, L2 x3 _ k 0 0 (by omega)⟩
        | succ j ih =>
          intro k x3 hk
          have hbk := bsF_lt (f := aG g a) hn0 k (by omega)
          refine g_X11_master_34 (d := d + 1) ⟨fun z => absurd (by rw [hn] at z; exact (nI_leI (a := n) (b := k) (by omega) (by omega)).mp z) (by omega), fun _ => (skillC (d := d + 1) (s := k) SS_21 hc (a := a) (by omega) (by omega)).to ?_⟩
          rintro _ m1 ⟨eq, rfl⟩
          obtain rfl := eq.symm
          refine ⟨_, rfl, (skillC (d := d + 1) (s := bsF (aG g a) k) SS_21 hc (a := a) (by omega) (by omega)).to ?_⟩
          rintro _ m1 ⟨eq, rfl⟩
          obtain rfl := eq.symm
          rw [nI_1]
          refine ⟨_, rfl, fun q => ?_, fun q => ?_⟩
          · have := ih (k + 1) (if g.1 (4 * k + a) < x3 then g.1 (4 * k + a) else x3) (by omega)
            rw [bsF_p (f := aG g a) q] at this
            exact this
          · have := ih (k + 1) (if g.1 (4 * k + a) < x3 then g.1 (4 * k + a) else x3) (by omega)
            rw [bsF_n (f := aG g a) q] at this
            exact this
      exact L n 0 7 (by omega)
    · have hn0 : n = 0 := (nI_eq (a := n) (b := 0) (by omega) (by omega)).mp (hn.symm.trans c)
      unfold mstA
      rw [if_pos (inN_of hI), if_pos hn0]
  · unfold mstA
    rw [if_neg (ninN_of (y1 q))]
theorem e_masterM {ar : Nat} {x1 : Int32} (w : WT m) (hm : HM n m g) (hn : m.1 187 1 = nI n) (n8 : n ≤ 8) (ha : m.1 187 0 = nI ar) (a4 : ar ≤ 4) : Ct ad μX12_master (d + 2) [.ref (ad 187), .int x1] m (fun r m' => WT m' ∧ Fx (RS [20, 26]) m m' ∧ r = some (.int (mstA n ar x1 g))) := by
  have w0 : WT (uI m 187 17 0) := w.n rfl
  have f0 : Fx (RS [20, 26]) m (uI m 187 17 0) := Fx.rf.i rfl
  have s0 : (uI m 187 17 0).1 187 1 = nI n := hn
  have r0 : (uI m 187 17 0).1 187 0 = nI ar := ha
  have hm0 : HM n (uI m 187 17 0) g := hm
  refine v_X12_master (d := d + 1) ?_
  generalize uI m 187 17 0 = m1 at w0 f0 s0 r0 hm0 ⊢
  refine (knowM (d := d) r0 (by omega)).to ?_
  rintro _ m2 ⟨eq, v1, rfl, y1, y2⟩
  obtain rfl := eq.symm
  refine ⟨v1, rfl, fun q => ?_, fun q => ⟨w0, f0, ?_⟩⟩
  · have hI := y2 q
    obtain ⟨a, ha2, rfl⟩ := hI.of
    refine ⟨fun c => ?_, fun c => ⟨w0, f0, ?_⟩⟩
    · have hn0 : 0 < n := Nat.pos_of_ne_zero (fun z => c (by rw [s0, z]; rfl))
      have ea : mstA n ar (nI a) g = nI (bsF (aG g a) n) := by
        unfold mstA
        rw [if_pos (inN_of hI), if_neg (by omega), nI_clamp (by omega)]
      have hb := bsF_lt (f := aG g a) hn0 n (Nat.le_refl _)
      have V : ∀ s, s < n → vp_in (nI (4 * s + a)) 32 := fun s hs => nat_in (by omega) (by decide)
      have L2 : ∀ (x3 : Int32) (j k : Nat) (x4 : Int32), k + j = n → AW ad E0 μX12_master (d + 2) (fun r m' => WT m' ∧ Fx (RS [20, 26]) m m' ∧ r = some (.int (mstA n ar (nI a) g))) 97 [(0, .ref (ad 187)), (1, .int (nI a)), (2, .int (nI (bsF (aG g a) n))), (3, .int x3), (4, .int x4), (5, .int (nI k))] [] m1 := by
        intro x3 j
        induction j with
        | zero =>
          intro k x4 hk
          have w2 : WT (uI m1 187 16 (0 : Int32)) := w0.t rfl (by decide) (by decide)
          have e16 : ((uI m1 187 16 (0 : Int32)).1 187 16).toInt = 0 := by
            rw [u_eq]
            rfl
          refine g_X12_master_97 (d := d + 1) ⟨fun _ => ?_, fun z => absurd (by rw [s0]; exact (nI_leI (a := n) (b := k) (by omega) (by omega)).mpr (by omega)) z⟩
          rw [m_ix]
          refine ⟨V _ hb, (s_X12_tell w2 (by omega)).to ?_⟩
          rintro _ m3 ⟨w3, f3, rfl, p3⟩
          have p3' : (m3.1 187 16).toInt = ((uI m1 187 16 (0 : Int32)).1 187 16).toInt + 1 := p3
          refine ⟨rfl, (s_X12_tell w3 (by omega)).to ?_⟩
          rintro _ m4 ⟨w4, f4, rfl, p4⟩
          have p4' : (m4.1 187 16).toInt = (m3.1 187 16).toInt + 1 := p4
          refine ⟨rfl, (s_X12_tell w4 (by omega)).to ?_⟩
          rintro _ m5 ⟨w5, f5, rfl, -⟩
          exact ⟨rfl, w5, (((f0.i rfl).tr f3 (RS_sub rfl)).tr f4 (RS_sub rfl)).tr f5 (RS_sub rfl), by rw [ea]⟩
        | succ j ih =>
          intro k x4 hk
          refine g_X12_master_97 (d := d + 1) ⟨fun z => absurd (by rw [s0] at z; exact (nI_leI (a := n) (b := k) (by omega) (by omega)).mp z) (by omega), fun _ => ?_⟩
          rw [m_ix, m_ix, nI_1]
          exact ⟨V k (by omega), V _ hb, fun _ => ih (k + 1) _ (by omega), fun _ => ih (k + 1) _ (by omega)⟩
      have L : ∀ (j k : Nat) (x3 : Int32), k + j = n → AW ad E0 μX12_master (d + 2) (fun r m' => WT m' ∧ Fx (RS [20, 26]) m m' ∧ r = some (.int (mstA n ar (nI a) g))) 33 [(0, .ref (ad 187)), (1, .int (nI a)), (2, .int (nI (bsF (aG g a) k))), (3, .int x3), (4, .int (nI k))] [] m1 := by
        intro j
        induction j with
        | zero =>
          intro k x3 hk
          obtain rfl : k = n := hk
          exact g_X12_master_33 (d := d + 1) ⟨fun _ => L2 x3 k 0 0 (by omega), fun z => absurd (by rw [s0]; exact (nI_leI (a := k) (b := k) (by omega) (by omega)).mpr (Nat.le_refl _)) z⟩
        | succ j ih =>
          intro k x3 hk
          have hbk := bsF_lt (f := aG g a) hn0 k (by omega)
          have e1 : m1.1 188 (4 * k + a) = aG g a k := hm0.1 _ (by omega)
          have e2 : m1.1 188 (4 * bsF (aG g a) k + a) = aG g a (bsF (aG g a) k) := hm0.1 _ (by omega)
          refine g_X12_master_33 (d := d + 1) ⟨fun z => absurd (by rw [s0] at z; exact (nI_leI (a := n) (b := k) (by omega) (by omega)).mp z) (by omega), fun _ => ?_⟩
          rw [m_ix, m_ix, nI_clamp (by omega), nI_clamp (by omega), e1, e2]
          have T : ∀ b : Nat, bsF (aG g a) (k + 1) = b → AW ad E0 μX12_master (d + 2) (fun r m' => WT m' ∧ Fx (RS [20, 26]) m m' ∧ r = some (.int (mstA n ar (nI a) g))) 69 [(0, .ref (ad 187)), (1, .int (nI a)), (2, .int (nI b)), (3, .int x3), (4, .int (nI k))] [] m1 := fun b hb2 => by
            refine g_X12_master_69 (d := d + 1) ?_
            rw [m_ix, nI_1, ← hb2]
            exact ⟨V k (by omega), ih (k + 1) _ (by omega)⟩
          exact ⟨V k (by omega), V _ hbk, fun q => T _ (bsF_p q), fun q => T _ (bsF_n q)⟩
      exact L n 0 7 (by omega)
    · have hn0 : n = 0 := (nI_eq (a := n) (b := 0) (by omega) (by omega)).mp (s0.symm.trans c)
      unfold mstA
      rw [if_pos (inN_of hI), if_pos hn0]
  · unfold mstA
    rw [if_neg (ninN_of (y1 q))]
theorem og_master (c : Nat) (x1 : Int32) : Both ad d μX11_master μX12_master [.int x1] (InvK (KX KG c)) (InvK (KX KG (c + 1))) := og_s (A := [9]) (B := [20, 26]) (fun m g v H w kd => ⟨mstA (nE v) (aE v) x1 g, e_masterC (d := d + 298) w kd.1 kd.2.2.1.1 kd.2.2.1.2.2.1 kd.2.2.1.2.1 kd.2.2.1.2.2.2.1, fun m1 w1 kd1 => e_masterM (d := d + 298) w1 kd1.2.1 kd1.2.2.2.1.1 kd1.2.2.1.2.2.1 kd1.2.2.2.1.2.1 kd1.2.2.1.2.2.2.1⟩) rfl rfl rfl rfl rfl rfl
end PRZ
