/-! THE SEARCH OF THE CLASS: a game, a state, all of them -/
def CI (v : EV) (p : PSt) (t : Nat) (S : SSt) (m0 m : Wm) : Prop := WT m ∧ Fx (RS [2, 10, 11, 14, 58]) m0 m ∧ SC m S ∧ SDp m S ∧ HC 157 m (kS S t, p) ∧ EC m v ∧ (∀ s, s < nE v → m.1 162 s = pwG v (kS S t, p) s) ∧ ZI v S ∧ t < nS S
/-- between two states -/
def EJ (v : EV) (p : PSt) (S : SSt) (m0 m : Wm) : Prop := WT m ∧ Fx (RS [2, 10, 11, 14, 58]) m0 m ∧ SC m S ∧ SDp m S ∧ (∃ f, HC 157 m (f, p) ∧ ∀ k, 4 * nE v ≤ k → k < 32 → f k = 0) ∧ EC m v ∧ ZI v S
/-- there was no room -/
def NJ (m0 m : Wm) : Prop := WT m ∧ Fx (RS [2, 10, 11, 14, 58]) m0 m ∧ SWx m
section SRC
variable {ad : Nat → Nat} {d b ρ t a w s : Nat} {m m' m0 : Wm} {g : GS} {v : EV} {p : PSt} {S : SSt}
theorem powCb (hb : SS b ρ) (hρ : GR ρ) (w : WT m) (h : HC b m g) (hE : EC m v) (hs : s < 8) : Ct ad μX1_power (d + 4) [.ref (ad 3), .ref (ad b), .int (nI s)] m (fun r m' => WT m' ∧ Fx (RS [14]) m m' ∧ r = some (.int (pwG v g s))) := by
  obtain ⟨P, hP, hRu, hV⟩ := valueC (ad := ad) (d := d) hb hρ w h hE hs
  refine v_X1_power (d := d + 3) hb.1 ⟨P, hP, hRu, ?_⟩
  rw [hE.2.1]
  refine hV.to ?_
  rintro _ m1 ⟨w1, f1, rfl⟩
  exact ⟨_, rfl, w1, f1, rfl⟩
theorem SC.sw (h : SC m S) : SWx m := ⟨_, h.1.1⟩
theorem CI.e8 (h : CI v p t S m0 m) : nE v ≤ 8 := h.2.2.2.2.2.1.2.2.1
set_option maxHeartbeats 2000000 in
theorem stepC (h : CI v p t S m0 m) (hw : w ≤ 2) (hab : a < b) (hb : b < nE v) (hH : HW v p t w a b S) : Ct ad μX6_step (d + 4) [.ref (ad 156), .ref (ad 3), .int (nI t), .int (nI w), .int (nI a), .int (nI b)] m (fun r m' => (∃ S', xS v p t w a b S = some S' ∧ r = some (.int 1) ∧ CI v p t S' m0 m') ∨ (xS v p t w a b S = none ∧ r = some (.int 0) ∧ NJ m0 m')) := by
  have H0 := h
  obtain ⟨w0, f0, hS, hD, hc, hE, hP, hZ, ht⟩ := h
  have n8 := hE.2.2.1
  have hN := hS.n
  have G2 : (qtG v a b (nI w) (kS S t, p)).2 = p := stl_f2
  have sameQ : xS v p t w a b S = some S → ∀ m1, CI v p t S m0 m1 → (∃ S', xS v p t w a b S = some S' ∧ some (Value.int (1 : Int32)) = some (.int 1) ∧ CI v p t S' m0 m1) ∨ (xS v p t w a b S = none ∧ some (Value.int (1 : Int32)) = some (.int 0) ∧ NJ m0 m1) := fun e m1 h1 => Or.inl ⟨S, e, rfl, h1⟩
  have hon : rsG v (pwG v (kS S t, p) a - pwG v (kS S t, p) b) = wnG v (kS S t, p) a b (nI 0) := by
    unfold wnG
    rw [if_neg (show ¬ (nI 0 = (1 : Int32)) by decide), if_neg (show ¬ (nI 0 = (2 : Int32)) by decide), if_neg (show ¬ (nI 0 = (3 : Int32)) by decide)]
  have E61 : ¬ wnG v (kS S t, p) a b (nI w) = 2 → AW ad E0 μX6_step (d + 4) (fun r m' => (∃ S', xS v p t w a b S = some S' ∧ r = some (.int 1) ∧ CI v p t S' m0 m') ∨ (xS v p t w a b S = none ∧ r = some (.int 0) ∧ NJ m0 m')) 61 [(0, .ref (ad 156)), (1, .ref (ad 3)), (2, .int (nI t)), (3, .int (nI w)), (4, .int (nI a)), (5, .int (nI b)), (7, .int (wnG v (kS S t, p) a b (nI w)))] [] m := by
    intro h2
    refine g_X6_step_61 (d := d + 3) ((settleN (d := d) SS_157 G11 w0 hc hE (a := a) (e := b) (by omega) (by omega) (by omega) h2).to ?_)
    rintro _ m1 ⟨rfl, w1, f1, h1, k1⟩
    have h1' : HC 157 m1 ((qtG v a b (nI w) (kS S t, p)).1, p) := h1.cg (fun _ _ => rfl) G2.symm
    have k1' : m1.1 3 6 = -1 → qtG v a b (nI w) (kS S t, p) = (kS S t, p) := k1
    have zb : ZB v (qtG v a b (nI w) (kS S t, p)) := (hZ t ht p).qt (by omega) hb hE.2.2.2.1
    have at1 : ∀ k, k < 32 → k / 4 ≠ a → k / 4 ≠ b → kS S t k = (qtG v a b (nI w) (kS S t, p)).1 k := fun k _ q1 q2 => (stl_at (cn := false) (x := wnG v (kS S t, p) a b (nI w)) (g := (kS S t, p)) hE.2.2.2.1 q1 q2).symm
    have hx : xS v p t w a b S = insS (qtG v a b (nI w) (kS S t, p)).1 (dS S t + 1) S := rfl
    have r7 := zb.1.2
    have zbp : ∀ p' : PSt, ZB v ((qtG v a b (nI w) (kS S t, p)).1, p') := fun p' => zb.of rfl
    generalize (qtG v a b (nI w) (kS S t, p)).1 = f' at h1' at1 hx r7 zbp
    have F1 : Fx (RS [2, 10, 11, 14, 58]) m0 m1 := f0.tr f1 (RS_sub rfl)
    have S1 : SC m1 S := hS.fx f1 rfl
    have D1 : SDp m1 S := hD.fx f1 rfl
    have E1 : EC m1 v := hE.fx f1 rfl
    have P1 : ∀ s, s < nE v → m1.1 162 s = pwG v (kS S t, p) s := fun s hs => (f1.at (nRS (ρ := 58) rfl rfl)).trans (hP s hs)
    refine ⟨rfl, fun c => ?_, fun c => ?_⟩
    · obtain ⟨a1, a2, a3⟩ := S1.2 t ht
      have q0 := halfC (ad := ad) (d := d + 1) (p := p) (a := a) (e := b) a1 a2 a3 r7 (by omega) h1' at1 (by omega) (by omega) (u := 0) (by decide)
      have q1 := halfC (ad := ad) (d := d + 1) (p := p) (a := a) (e := b) a1 a2 a3 r7 (by omega) h1' at1 (by omega) (by omega) (u := 1) (by decide)
      refine q0.to ?_
      rintro _ m2 ⟨eq, rfl⟩
      obtain rfl := eq.symm
      refine ⟨_, rfl, q1.to ?_⟩
      rintro _ m2 ⟨eq, rfl⟩
      obtain rfl := eq.symm
      refine ⟨_, rfl, (putX (d := d + 3) w1 S1.1).to ?_⟩
      rintro r m6 q
      obtain ⟨w6, f6, q⟩ := S1.look r7 q
      have h6 : HC 157 m6 (f', p) := h1'.fx SS_157 f6 rfl
      -- both sides' skills brought back
      have UN : ∀ (S2 : SSt) (Q : Wm → Prop), SC m6 S2 → LeS S S2 → (∀ m9, WT m9 → Fx (RS [2, 11]) m6 m9 → HC 157 m9 (kS S t, p) → Q m9) → Ct ad μX9_unpack (d + 3) [.ref (ad 151), .int (nI t), .int (nI a), .ref (ad 157)] m6 (fun r m8 => r = none ∧ Ct ad μX9_unpack (d + 3) [.ref (ad 151), .int (nI t), .int (nI b), .ref (ad 157)] m8 (fun r m9 => r = none ∧ Q m9)) := by
        intro S2 Q s6 l6 k6
        have ht2 : t < nS S2 := Nat.lt_of_lt_of_le ht l6.1
        obtain ⟨b1, b2, b3⟩ := s6.2 t ht2
        have n6 := s6.n
        rw [(l6.2 t ht).1] at b1 b2 b3
        refine (unpackC (d := d + 2) (f := kS S t) (p := p) w6 SS_157 G11 b1 b2 b3 (by omega) (s := a) (by omega) h6).to ?_
        rintro _ m8 ⟨rfl, w8, f8, h8⟩
        have c52 := (fx_cl (a := 152) (ρ := 10) f8 (fun _ => rfl) rfl).2
        have c53 := (fx_cl (a := 153) (ρ := 10) f8 (fun _ => rfl) rfl).2
        refine ⟨rfl, (unpackC (d := d + 2) (f := kS S t) (p := p) w8 SS_157 G11 (by rw [c52]; exact b1) (by rw [c53]; exact b2) b3 (by omega) (s := b) (by omega) h8).to ?_⟩
        rintro _ m9 ⟨rfl, w9, f9, h9⟩
        refine ⟨rfl, k6 m9 w9 (f8.tr f9 (fun _ _ h => h)) (h9.cg (fun k hk => ?_) rfl)⟩
        show kS S t k = if 4 * b ≤ k ∧ k < 4 * b + 4 then kS S t k else if 4 * a ≤ k ∧ k < 4 * a + 4 then kS S t k else f' k
        by_cases z1 : 4 * b ≤ k ∧ k < 4 * b + 4
        · rw [if_pos z1]
        · rw [if_neg z1]
          by_cases z2 : 4 * a ≤ k ∧ k < 4 * a + 4
          · rw [if_pos z2]
          · rw [if_neg z2]
            exact at1 k hk (by omega) (by omega)
      have C9 : ∀ (S2 : SSt) m9, SC m6 S2 → WT m9 → Fx (RS [2, 11]) m6 m9 → HC 157 m9 (kS S t, p) → WT m9 ∧ Fx (RS [2, 10, 11, 14, 58]) m0 m9 ∧ SC m9 S2 ∧ SDp m9 S ∧ HC 157 m9 (kS S t, p) ∧ EC m9 v ∧ (∀ s, s < nE v → m9.1 162 s = pwG v (kS S t, p) s) ∧ m9.1 151 5 = m6.1 151 5 := fun S2 m9 s6 w9 f9 h9 =>
        ⟨w9, (F1.tr f6 (RS_sub rfl)).tr f9 (RS_sub rfl), s6.fx f9 rfl, (D1.fx f6 rfl).fx f9 rfl, h9, (E1.fx f6 rfl).fx f9 rfl, fun s hs => (f9.at (nRS (ρ := 58) rfl rfl)).trans ((f6.at (nRS (ρ := 58) rfl rfl)).trans (P1 s hs)), f9.at (nRS (ρ := 10) rfl rfl)⟩
      rcases q with ⟨i, hi, ei, rfl, s6, z6⟩ | ⟨ni, n3, rfl, s6⟩ | ⟨ni, n3, rfl, z6, s6⟩
      · refine ⟨_, rfl, UN S _ s6 LeS.rf (fun m9 w9 f9 h9 => ?_)⟩
        obtain ⟨g1, g2, g3, g4, g5, g6, g7, g8⟩ := C9 S m9 s6 w9 f9 h9
        have e : xS v p t w a b S = some S := by rw [hx]; exact insS_in ⟨i, hi, ei⟩
        have ni : nI i ≠ -1 := fun q => by
          have := congrArg Int32.toInt q
          rw [nI_toInt (by omega)] at this
          have z1 : (-1 : Int32).toInt = -1 := rfl
          omega
        exact ⟨fun _ => ⟨fun _ => sameQ e m9 ⟨g1, g2, g3, g4, g5, g6, g7, hZ, ht⟩, fun z => absurd (g8.trans z6) z⟩, fun z => absurd z ni⟩
      · refine ⟨_, rfl, UN S _ s6 LeS.rf (fun m9 w9 f9 h9 => ?_)⟩
        obtain ⟨g1, g2, g3, g4, g5, g6, g7, g8⟩ := C9 S m9 s6 w9 f9 h9
        exact ⟨fun z => absurd rfl z, fun _ => Or.inr ⟨by rw [hx]; exact insS_no ni n3, rfl, g1, g2, g3.sw⟩⟩
      · have s6' := s6 (dS S t + 1)
        refine ⟨_, rfl, UN (adS f' (dS S t + 1) S) _ s6' LeS.ad (fun m9 w9 f9 h9 => ?_)⟩
        obtain ⟨g1, g2, g3, g4, g5, g6, g7, g8⟩ := C9 _ m9 s6' w9 f9 h9
        have e : xS v p t w a b S = some (adS f' (dS S t + 1) S) := by rw [hx]; exact insS_new ni n3
        have nn : nI (nS S) ≠ -1 := fun q => by
          have := congrArg Int32.toInt q
          rw [nI_toInt (by omega)] at this
          have z1 : (-1 : Int32).toInt = -1 := rfl
          omega
        refine ⟨fun _ => ⟨fun z => absurd (g8.symm.trans z) (by rw [z6]; decide), fun _ => ?_⟩, fun z => absurd z nn⟩
        obtain ⟨e65, dl⟩ := g4 t ht
        have V : vp_in (nI (nS S)) 3000 := nat_in n3 (by decide)
        have Vt : vp_in (nI t) 3000 := nat_in (by omega) (by decide)
        refine ⟨V, V, Vt, V, Or.inl ⟨_, e, rfl, ?_⟩⟩
        have fin : ∀ (k : Nat) (y z : Int32), k = nS S → y = nI (dS S t + 1) → CI v p t (adS f' (dS S t + 1) S) m0 (uI (uI (uI m9 163 k (nI t)) 164 k z) 165 k y) := by
          intro k y z hk hy
          subst hk hy
          have ty : (nI (dS S t + 1)).toInt = ((dS S t + 1 : Nat) : Int) := nI_toInt (by omega)
          have tt : (nI t).toInt = (t : Int) := nI_toInt (by omega)
          have F : Fx (RS [58]) m9 (uI (uI (uI m9 163 (nS S) (nI t)) 164 (nS S) z) 165 (nS S) (nI (dS S t + 1))) := Fx.i (Fx.i (Fx.i Fx.rf rfl) rfl) rfl
          refine ⟨((g1.t (a := 163) rfl (by omega) (by omega)).n rfl).t (a := 165) (lo := 0) (hi := (nS S : Int)) rfl (by omega) (by omega), g2.tr F (RS_sub rfl), g3.fx F rfl, fun i hi => ?_, ?_, g6.fx F rfl, fun s hs => ?_, hZ.ins (fun p' => zbp p') (by rw [← hx]; exact e), by rw [adS_n]; omega⟩
          · rw [adS_n] at hi
            by_cases c : i = nS S
            · subst c
              rw [adS_dn]
              exact ⟨u_eq, by omega⟩
            · rw [adS_d (by omega)]
              exact ⟨(u_ne (fun q => c q.2)).trans ((u_ne (by omega)).trans ((u_ne (by omega)).trans (g4 i (by omega)).1)), (g4 i (by omega)).2⟩
          · rw [adS_k ht]
            exact g5.fx SS_157 F rfl
          · rw [adS_k ht]
            exact (u_ne (by omega)).trans ((u_ne (by omega)).trans ((u_ne (by omega)).trans (g7 s hs)))
        refine fin _ _ _ (nI_clamp (by omega)) ?_
        rw [nI_clamp (n := t) (by omega), nI_clamp (n := nS S) (by omega)]
        show m9.1 165 t + 1 = _
        rw [e65, nI_1]
    · refine sameQ (xS_same ht ?_) m1 ⟨w1, F1, S1, D1, ?_, E1, P1, hZ, ht⟩
      · rw [k1' c]
        exact fun _ _ => rfl
      · have := h1
        rw [show stlG false v a b (wnG v (kS S t, p) a b (nI w)) (kS S t, p) = (kS S t, p) from k1 c] at this
        exact this
  have E40 : AW ad E0 μX6_step (d + 4) (fun r m' => (∃ S', xS v p t w a b S = some S' ∧ r = some (.int 1) ∧ CI v p t S' m0 m') ∨ (xS v p t w a b S = none ∧ r = some (.int 0) ∧ NJ m0 m')) 40 [(0, .ref (ad 156)), (1, .ref (ad 3)), (2, .int (nI t)), (3, .int (nI w)), (4, .int (nI a)), (5, .int (nI b)), (6, .int (wnG v (kS S t, p) a b (nI 0)))] [.int (wnG v (kS S t, p) a b (nI w))] m := by
    refine g_X6_step_40 (d := d + 3) ⟨fun c => sameQ (xS_same ht ?_) m H0, fun c => ⟨fun _ => E61 c, fun c2 => ⟨fun _ => E61 c, fun c3 => sameQ (xS_honest hH (fun z => c2 (by rw [z]; rfl)) hab hb c3) m H0⟩⟩⟩
    unfold qtG stlG
    rw [if_pos c, if_neg (show ¬ (false = true) by decide)]
    exact fun _ _ => rfl
  refine v_X6_step (d := d + 3) ⟨nat_in (by omega) (by decide), nat_in (by omega) (by decide), ?_⟩
  rw [nI_clamp (by omega), nI_clamp (by omega), hP a (by omega), hP b hb]
  refine (resultOfC (d := d + 3) (v := v) hE.2.2.2.2.1).to ?_
  rintro _ m2 ⟨eq, rfl⟩
  obtain rfl := eq.symm
  rw [hon]
  have hw3 : w = 0 ∨ w = 1 ∨ w = 2 := by omega
  refine ⟨_, rfl, fun c => ⟨fun c1 => ?_, fun c1 => ?_⟩, fun c => ?_⟩
  · have : w = 2 := by
      rcases hw3 with rfl | rfl | rfl
      · exact absurd rfl c
      · exact absurd rfl c1
      · rfl
    subst this
    exact E40
  · have : w = 1 := by
      rcases hw3 with rfl | rfl | rfl
      · exact absurd rfl c
      · rfl
      · exact absurd c1 (by decide)
    subst this
    exact E40
  · have : w = 0 := by
      rcases hw3 with rfl | rfl | rfl
      · rfl
      · exact absurd c (by decide)
      · exact absurd c (by decide)
    subst this
    exact E40
theorem HC.self {f : Nat → Int32} (h : HC b m (f, p)) : HC b m (f, p) := h
/-- the powers told once for a state -/
theorem ex_8 {Q : Option Value → Wm → Prop} (ht : t < nS S) (K : ∀ m1, CI v p t S m0 m1 → AW ad E0 μX6_expand (d + 5) Q 39 [(0, .ref (ad 156)), (1, .ref (ad 3)), (2, .int (nI t)), (3, .int 0)] [] m1) :
    ∀ (k s : Nat) (m1 : Wm), s + k = nE v → WT m1 → Fx (RS [2, 10, 11, 14, 58]) m0 m1 → SC m1 S → SDp m1 S → HC 157 m1 (kS S t, p) → EC m1 v → (∀ j, j < s → m1.1 162 j = pwG v (kS S t, p) j) → ZI v S → AW ad E0 μX6_expand (d + 5) Q 8 [(0, .ref (ad 156)), (1, .ref (ad 3)), (2, .int (nI t)), (3, .int (nI s))] [] m1 := by
  intro k
  induction k with
  | zero =>
    intro s m1 hs w1 f1 s1 d1 h1 e1 k1 z1
    obtain rfl : s = nE v := hs
    have n8 := e1.2.2.1
    exact g_X6_expand_8 (d := d + 4) ⟨fun _ => K m1 ⟨w1, f1, s1, d1, h1, e1, k1, z1, ht⟩, fun c => absurd (by rw [e1.1]; exact (nI_leI (by omega) (by omega)).mpr (Nat.le_refl _)) c⟩
  | succ k ih =>
    intro s m1 hs w1 f1 s1 d1 h1 e1 k1 z1
    have n8 := e1.2.2.1
    refine g_X6_expand_8 (d := d + 4) ⟨fun c => absurd (by rw [e1.1] at c; exact (nI_leI (by omega) (by omega)).mp c) (by omega), fun _ => (powCb (d := d) SS_157 G11 w1 h1 e1 (s := s) (by omega)).to ?_⟩
    rintro _ m2 ⟨w2, f2, rfl⟩
    refine ⟨_, rfl, nat_in (by omega) (by decide), ?_⟩
    rw [nI_clamp (by omega), nI_1]
    have F : Fx (RS [58]) m2 (uI m2 162 s (pwG v (kS S t, p) s)) := Fx.i Fx.rf rfl
    refine ih (s + 1) _ (by omega) (w2.n rfl) ((f1.tr f2 (RS_sub rfl)).tr F (RS_sub rfl)) ((s1.fx f2 rfl).fx F rfl) (fun i hi => ⟨(u_ne (by omega)).trans ((d1.fx f2 rfl) i hi).1, (d1 i hi).2⟩) ((h1.fx SS_157 f2 rfl).fx SS_157 F rfl) ((e1.fx f2 rfl).fx F rfl) (fun j hj => ?_) z1
    by_cases c : j = s
    · subst c
      exact u_eq
    · exact (u_ne (fun q => c q.2)).trans ((f2.at (nRS (ρ := 58) rfl rfl)).trans (k1 j (by omega)))
/-- games of two, behind which R goes on; T is what comes of all -/
theorem ex_62 {Q : Option Value → Wm → Prop} {R : SSt → Option SSt} {T : Option SSt} (hw : w ≤ 2) (hN : ∀ m1, NJ m0 m1 → T = none → Q (some (.int 0)) m1)
    (K : ∀ S1 m1, CI v p t S1 m0 m1 → HW v p t w a (nE v) S1 → R S1 = T → AW ad E0 μX6_expand (d + 5) Q 47 [(0, .ref (ad 156)), (1, .ref (ad 3)), (2, .int (nI t)), (3, .int (nI w)), (4, .int (nI (a + 1)))] [] m1) :
    ∀ (k b : Nat) (S : SSt) (m1 : Wm), a < b → b + k = nE v → (xB v p t w a k b S).bind R = T → CI v p t S m0 m1 → HW v p t w a b S → AW ad E0 μX6_expand (d + 5) Q 62 [(0, .ref (ad 156)), (1, .ref (ad 3)), (2, .int (nI t)), (3, .int (nI w)), (4, .int (nI a)), (5, .int (nI b))] [] m1 := by
  intro k
  induction k with
  | zero =>
    intro b S m1 hab hk hT h hH
    obtain rfl : b = nE v := hk
    have n8 := h.e8
    have e33 := h.2.2.2.2.2.1.1
    refine g_X6_expand_62 (d := d + 4) ⟨fun _ => ?_, fun c => absurd (by rw [e33]; exact (nI_leI (by omega) (by omega)).mpr (Nat.le_refl _)) c⟩
    rw [nI_1]
    exact K S m1 h hH hT
  | succ k ih =>
    intro b S m1 hab hk hT h hH
    have n8 := h.e8
    have e33 := h.2.2.2.2.2.1.1
    have ht := h.2.2.2.2.2.2.2.2
    have hT' : ((xS v p t w a b S).bind (xB v p t w a k (b + 1))).bind R = T := hT
    refine g_X6_expand_62 (d := d + 4) ⟨fun c => absurd (by rw [e33] at c; exact (nI_leI (by omega) (by omega)).mp c) (by omega), fun _ => (stepC (d := d) h hw hab (by omega) hH).to ?_⟩
    rintro r m2 (⟨S', e, rfl, h2⟩ | ⟨e, rfl, h2⟩)
    · rw [e] at hT'
      refine ⟨1, rfl, fun _ => ?_, fun c => absurd c (by decide)⟩
      rw [nI_1]
      exact ih (b + 1) S' m2 (by omega) (by omega) hT' h2 (hH.st ht e)
    · rw [e] at hT'
      exact ⟨0, rfl, fun c => absurd rfl c, fun _ => hN m2 h2 hT'.symm⟩
theorem ex_47 {Q : Option Value → Wm → Prop} {R : SSt → Option SSt} {T : Option SSt} (hw : w ≤ 2) (hN : ∀ m1, NJ m0 m1 → T = none → Q (some (.int 0)) m1)
    (K : ∀ S1 m1 b, CI v p t S1 m0 m1 → HW v p t w (nE v) b S1 → R S1 = T → AW ad E0 μX6_expand (d + 5) Q 39 [(0, .ref (ad 156)), (1, .ref (ad 3)), (2, .int (nI t)), (3, .int (nI (w + 1)))] [] m1) :
    ∀ (k a : Nat) (S : SSt) (m1 : Wm), a + k = nE v → (xA v p t w (nE v) k a S).bind R = T → CI v p t S m0 m1 → HW v p t w a (a + 1) S → AW ad E0 μX6_expand (d + 5) Q 47 [(0, .ref (ad 156)), (1, .ref (ad 3)), (2, .int (nI t)), (3, .int (nI w)), (4, .int (nI a))] [] m1 := by
  intro k
  induction k with
  | zero =>
    intro a S m1 hk hT h hH
    obtain rfl : a = nE v := hk
    have n8 := h.e8
    have e33 := h.2.2.2.2.2.1.1
    refine g_X6_expand_47 (d := d + 4) ⟨fun _ => ?_, fun c => absurd (by rw [e33]; exact (nI_leI (by omega) (by omega)).mpr (Nat.le_refl _)) c⟩
    rw [nI_1]
    exact K S m1 _ h hH hT
  | succ k ih =>
    intro a S m1 hk hT h hH
    have n8 := h.e8
    have e33 := h.2.2.2.2.2.1.1
    have hT' : ((xB v p t w a (nE v - (a + 1)) (a + 1) S).bind (xA v p t w (nE v) k (a + 1))).bind R = T := hT
    rw [Option.bind_assoc] at hT'
    refine g_X6_expand_47 (d := d + 4) ⟨fun c => absurd (by rw [e33] at c; exact (nI_leI (by omega) (by omega)).mp c) (by omega), fun _ => ?_⟩
    rw [nI_1]
    exact ex_62 (d := d) hw hN (fun S1 m2 h2 hH2 hR => ih (a + 1) S1 m2 (by omega) hR h2 hH2.na) (nE v - (a + 1)) (a + 1) S m1 (by omega) (by omega) hT' h hH
theorem ex_39 {Q : Option Value → Wm → Prop} {T : Option SSt} (hN : ∀ m1, NJ m0 m1 → T = none → Q (some (.int 0)) m1) (hY : ∀ S1 m1, CI v p t S1 m0 m1 → T = some S1 → Q (some (.int 1)) m1) :
    ∀ (k w : Nat) (S : SSt) (m1 : Wm), w + k = 3 → xW v p t (nE v) k w S = T → CI v p t S m0 m1 → HW v p t w 0 (0 + 1) S → AW ad E0 μX6_expand (d + 5) Q 39 [(0, .ref (ad 156)), (1, .ref (ad 3)), (2, .int (nI t)), (3, .int (nI w))] [] m1 := by
  intro k
  induction k with
  | zero =>
    intro w S m1 hk hT h hH
    obtain rfl : w = 3 := hk
    exact g_X6_expand_39 (d := d + 4) ⟨fun _ => hY S m1 h hT.symm, fun c => absurd (by decide) c⟩
  | succ k ih =>
    intro w S m1 hk hT h hH
    have hT' : (xA v p t w (nE v) (nE v) 0 S).bind (xW v p t (nE v) k (w + 1)) = T := hT
    exact g_X6_expand_39 (d := d + 4) ⟨fun c => absurd ((le_l 3 3 rfl (by decide) (by omega)).mp c) (by omega), fun _ => ex_47 (d := d) (by omega) hN (fun S1 m2 b h2 hH2 hR => ih (w + 1) S1 m2 (by omega) hR h2 hH2.nw) (nE v) 0 S m1 (by omega) hT' h hH⟩
theorem expandC (h : EJ v p S m0 m) (ht : t < nS S) : Ct ad μX6_expand (d + 5) [.ref (ad 156), .ref (ad 3), .int (nI t)] m (fun r m' => (∃ S', xW v p t (nE v) 3 0 S = some S' ∧ r = some (.int 1) ∧ EJ v p S' m0 m') ∨ (xW v p t (nE v) 3 0 S = none ∧ r = some (.int 0) ∧ NJ m0 m')) := by
  obtain ⟨w0, f0, s0, d0, ⟨f, h0, hz⟩, e0, z0⟩ := h
  have n8 := e0.2.2.1
  have zt := (z0 t ht p).1.1
  refine v_X6_expand (d := d + 4) ((unpackAllC (d := d + 2) w0 s0 ht h0 e0.1 n8 (fun k k1 k2 => (hz k k1 k2).trans (zt k k1 k2).symm)).to ?_)
  rintro _ m1 ⟨rfl, w1, f1, h1⟩
  refine ⟨rfl, ?_⟩
  refine ex_8 (d := d) ht (fun m2 h2 => ?_) (nE v) 0 m1 (by omega) w1 (f0.tr f1 (RS_sub rfl)) (s0.fx f1 rfl) (d0.fx f1 rfl) h1 (e0.fx f1 rfl) (fun j hj => absurd hj (Nat.not_lt_zero j)) z0
  refine ex_39 (d := d) (T := xW v p t (nE v) 3 0 S) (fun m3 h3 e => Or.inr ⟨e, rfl, h3⟩) (fun S1 m3 h3 e => Or.inl ⟨S1, e, rfl, ?_⟩) 3 0 S m2 rfl rfl h2 ⟨fun _ a' b' q1 q2 q3 => by omega, fun q => absurd rfl q⟩
  obtain ⟨k1, k2, k3, k4, k5, k6, k7, k8, k9⟩ := h3
  exact ⟨k1, k2, k3, k4, ⟨_, k5, fun k q1 q2 => (k8 t k9 p).1.1 k q1 q2⟩, k6, k8⟩
theorem explore_51 {wi : Nat} (hwi : wi ≤ 3000) {T : Option SSt} : ∀ (k t : Nat) (S : SSt) (m1 : Wm), t + k = 3000 → xL v p wi k t S = T → EJ v p S m0 m1 → AW ad E0 μX6_explore (d + 6) (fun r m' => (∃ S', T = some S' ∧ r = some (.int 1) ∧ EJ v p S' m0 m') ∨ (T = none ∧ r = some (.int 0) ∧ NJ m0 m')) 51 [(0, .ref (ad 156)), (1, .ref (ad 3)), (3, .int (nI wi)), (4, .int (nI t))] [] m1 := by
  intro k
  induction k with
  | zero =>
    intro t S m1 hk hT h
    obtain rfl : t = 3000 := hk
    exact g_X6_explore_51 (d := d + 5) ⟨fun _ => Or.inl ⟨S, hT.symm, rfl, h⟩, fun c => absurd (by decide) c⟩
  | succ k ih =>
    intro t S m1 hk hT h
    have hN := h.2.2.1.n
    have c4 := h.2.2.1.c4
    have hT' : (if nS S ≤ t then some S else if dS S t < wi then (xW v p t (nE v) 3 0 S).bind (xL v p wi k (t + 1)) else some S) = T := hT
    refine g_X6_explore_51 (d := d + 5) ⟨fun c => absurd ((le_l 3000 3000 rfl (by decide) (by omega)).mp c) (by omega), fun _ => ⟨fun c => ?_, fun c => ?_⟩⟩
    · rw [c4] at c
      rw [if_pos ((nI_leI (by omega) (by omega)).mp c)] at hT'
      exact Or.inl ⟨S, hT'.symm, rfl, h⟩
    · rw [c4] at c
      have ht : t < nS S := Nat.lt_of_not_le (fun z => c ((nI_leI (by omega) (by omega)).mpr z))
      obtain ⟨e65, dl⟩ := h.2.2.2.1 t ht
      rw [if_neg (by omega)] at hT'
      rw [nI_clamp (by omega), e65]
      refine ⟨nat_in (by omega) (by decide), fun c2 => ?_, fun c2 => ?_⟩
      · have hd := (nI_ltI (a := dS S t) (b := wi) (by omega) (by omega)).mp c2
        rw [if_pos hd] at hT'
        refine (expandC (d := d) h ht).to ?_
        rintro r m2 (⟨S', e, rfl, h2⟩ | ⟨e, rfl, h2⟩)
        · rw [e] at hT'
          refine ⟨1, rfl, fun _ => ?_, fun c => absurd c (by decide)⟩
          rw [nI_1]
          exact ih (t + 1) S' m2 (by omega) hT' h2
        · rw [e] at hT'
          exact ⟨0, rfl, fun c => absurd rfl c, fun _ => Or.inr ⟨hT'.symm, rfl, h2⟩⟩
      · have hd : ¬ dS S t < wi := fun z => c2 ((nI_ltI (by omega) (by omega)).mpr z)
        rw [if_neg hd] at hT'
        exact Or.inl ⟨S, hT'.symm, rfl, h⟩
theorem s0S_e {f : Nat → Int32} : adS f 0 (0, (fun _ => f), fun _ => 0) = s0S f := by
  unfold adS s0S
  refine Prod.ext rfl (Prod.ext (funext fun i => ?_) (funext fun i => ?_))
  · show (if i = 0 then f else f) = f
    split <;> rfl
  · show (if i = 0 then 0 else 0) = 0
    split <;> rfl
theorem exploreC (w0 : WT m) (hW : SWx m) (hc : HC 21 m g) (hE : EC m v) (hz : ZB v g) {wi : Nat} (hwi : wi ≤ 3000) : Ct ad μX6_explore (d + 6) [.ref (ad 156), .ref (ad 3), .ref (ad 21), .int (nI wi)] m (fun r m' => (∃ S', srG v g wi = some S' ∧ r = some (.int 1) ∧ EJ v g.2 S' m m') ∨ (srG v g wi = none ∧ r = some (.int 0) ∧ NJ m m')) := by
  refine v_X6_explore (d := d + 5) SS_21.1 ((copyC (d := d + 4) w0 SS_157 SS_21 (Or.inl (by decide)) hc).to ?_)
  rintro _ m1 ⟨rfl, w1, f1, h1⟩
  obtain ⟨N, hW1⟩ := hW.fx f1 rfl
  refine ⟨rfl, (clearC (d := d + 5) w1 hW1).to ?_⟩
  rintro _ m2 ⟨rfl, w2, f2, t2⟩
  have h2 : HC 157 m2 (g.1, g.2) := h1.fx SS_157 f2 rfl
  have s2 : SC m2 (0, (fun _ => g.1), fun _ => 0) := ⟨t2, fun i hi => absurd hi (Nat.not_lt_zero i)⟩
  refine ⟨rfl, (putSkC (d := d + 3) w2 SS_157 h2 hz.1.2 s2).to ?_⟩
  rintro r m3 ⟨w3, f3, q⟩
  rcases q with ⟨i, hi, -⟩ | ⟨-, q, -⟩ | ⟨-, -, rfl, -, s3⟩
  · exact absurd hi (Nat.not_lt_zero i)
  · exact absurd (show (0 : Nat) < 3000 by decide) q
  refine ⟨_, rfl, ?_⟩
  have s3' := s3 0
  rw [s0S_e] at s3'
  have F1 : Fx (RS [2, 10, 11, 14, 58]) m m3 := (((Fx.rf (S := RS [2, 10, 11, 14, 58])).tr f1 (RS_sub rfl)).tr f2 (RS_sub rfl)).tr f3 (RS_sub rfl)
  have F : Fx (RS [58]) m3 (uI (uI (uI m3 163 (0 : Int32).toNatClampNeg (-1 : Int32)) 164 (0 : Int32).toNatClampNeg (-1 : Int32)) 165 (0 : Int32).toNatClampNeg (0 : Int32)) := Fx.i (Fx.i (Fx.i Fx.rf rfl) rfl) rfl
  refine explore_51 (d := d) hwi 3000 0 (s0S g.1) _ rfl rfl ⟨((w3.t (a := 163) rfl (by decide) (by decide)).n rfl).t (a := 165) (lo := 0) (hi := ((0 : Nat) : Int)) rfl (by decide) (by decide), F1.tr F (RS_sub rfl), s3'.fx F rfl, fun i hi => ?_, ⟨g.1, ((h2.fx SS_157 f3 rfl).fx SS_157 F rfl), fun k k1 k2 => hz.1.1 k k1 k2⟩, (((hE.fx f1 rfl).fx f2 rfl).fx f3 rfl).fx F rfl, fun i hi p => hz.of rfl⟩
  have hi0 : i = 0 := Nat.lt_one_iff.mp hi
  subst hi0
  exact ⟨u_eq, Nat.le_refl _⟩
end SRC
