/-! THE LEAGUE (model) -/
section LGM
variable {ad : Nat → Nat} {d : Nat} {m : Wm}
def lgS : List Nat := [20, 21, 22, 23, 24, 25, 27, 29, 39, 45, 46, 52]
def lgQ (m : Wm) (r : Option Value) (m' : Wm) : Prop := WT m' ∧ Fx (RS [20, 21, 22, 23, 24, 25, 27, 29, 39, 45, 46, 52]) m m' ∧ (∃ v : Int32, r = some (.int v)) ∧ (m'.1 187 14).toInt = 0 ∧ ((m'.1 187 10 = m.1 187 10 ∧ m'.1 187 11 = m.1 187 11) ∨ (m'.1 187 11).toInt = 0)
/-- what holds of the cells while the league is taken over -/
def lgI (m m3 : Wm) : Prop := WT m3 ∧ Fx (RS [20, 21, 22, 23, 24, 25, 27, 29, 39, 45, 46, 52]) m m3 ∧ (m3.1 187 14).toInt = 0 ∧ ((m3.1 187 10 = m.1 187 10 ∧ m3.1 187 11 = m.1 187 11) ∨ (m3.1 187 11).toInt = 0)
theorem lg_362 {m3 : Wm} {x3 x5 : Int32} (I : lgI m m3) (h0 : 0 ≤ x3.toInt) (h1 : x3.toInt ≤ 8) : AW ad E0 μX12_league (d + 1) (lgQ m) 362 [(0, .ref (ad 187)), (3, .int x3), (5, .int x5)] [] m3 := by
  obtain ⟨w, f, e, g⟩ := I
  exact g_X12_league_362 ⟨(w.t rfl h0 h1).t rfl (by decide) (by decide), (f.i rfl).i rfl, ⟨_, rfl⟩, e, g⟩
theorem lg_copy {x4 x5 : Int32} {th : Nat} (hth : th ≤ 8) : ∀ (j s : Nat) (m3 : Wm), s + j = th ∨ (th ≤ s ∧ j = 0 ∧ s ≤ 8) → lgI m m3 → AW ad E0 μX12_league (d + 1) (lgQ m) 250 [(0, .ref (ad 187)), (3, .int (nI th)), (4, .int x4), (5, .int x5), (7, .int (nI s))] [] m3 := by
  intro j
  have tt : (nI th).toInt = (th : Int) := nI_toInt (by omega)
  have l3 : ∀ m3 : Wm, lgI m m3 → AW ad E0 μX12_league (d + 1) (lgQ m) 362 [(0, .ref (ad 187)), (3, .int (nI th)), (5, .int x5)] [] m3 := fun m3 I => lg_362 I (by omega) (by omega)
  have l53 : ∀ (m3 : Wm) (v : Int32), lgI m m3 → lgI m (uI m3 187 53 v) := fun m3 v I => ⟨I.1.n rfl, I.2.1.i rfl, I.2.2.1, I.2.2.2⟩
  induction j with
  | zero =>
    intro s m3 hs I
    refine g_X12_league_250 ⟨fun _ => ⟨fun _ => l3 _ (l53 _ _ I), fun _ => ⟨fun _ => l3 _ I, fun _ => l3 _ (l53 _ _ I)⟩⟩, fun c => absurd ((nI_leI (by omega) (by omega)).mpr (by omega)) c⟩
  | succ j ih =>
    intro s m3 hs I
    have hs8 : s < 8 := by omega
    refine g_X12_league_250 ⟨fun c => absurd ((nI_leI (by omega) (by omega)).mp c) (by omega), fun _ => ?_⟩
    have L : ∀ (i a : Nat) (m4 : Wm), a + i = 4 → lgI m m4 → AW ad E0 μX12_league (d + 1) (lgQ m) 259 [(0, .ref (ad 187)), (3, .int (nI th)), (4, .int x4), (5, .int x5), (7, .int (nI s)), (8, .int (nI a))] [] m4 := by
      intro i
      induction i with
      | zero =>
        intro a m4 ha I4
        obtain ⟨w, f, e, g⟩ := I4
        have v := nat_in hs8 (show (8 : Nat) < 2147483648 by decide)
        refine g_X12_league_259 ⟨fun _ => ⟨v, v, v, v, v, ?_⟩, fun c => absurd ((le_l 4 4 rfl (by omega) (by omega)).mpr (by omega)) c⟩
        rw [nI_1]
        exact ih (s + 1) _ (by omega) ⟨(((w.n rfl).n rfl).n rfl).n rfl, (((f.i rfl).i rfl).i rfl).i rfl, e, g⟩
      | succ i ih2 =>
        intro a m4 ha I4
        obtain ⟨w, f, e, g⟩ := I4
        have l4 : (4 : Int32) * nI s + nI a = nI (4 * s + a) := by rw [l_mul 4 4 rfl, nI_add]
        refine g_X12_league_259 ⟨fun c => absurd ((le_l 4 4 rfl (by omega) (by omega)).mp c) (by omega), fun _ => ?_⟩
        rw [l4, nI_1]
        exact ⟨nat_in (by omega) (by decide), nat_in (by omega) (by decide), ih2 (a + 1) _ (by omega) ⟨w.n rfl, f.i rfl, e, g⟩⟩
    exact L 4 0 m3 (by decide) I
/-- the numbers read so far -/
def lgV (w x1 x4 : Int32) (fr th : Nat) : Prop := (w = -1 → x4 = 0 ∨ (1 ≤ x1.toInt ∧ x1.toInt ≤ 4)) ∧ fr ≤ 8 ∧ th ≤ 8
theorem lg_end {ty e : Nat} {tx : Nat → Int32} (A : PA 195 80 ty 76 e) {x1 x4 x5 : Int32} {fr th p : Nat} {w : Int32} {m3 : Wm} (h : PS 195 ty 76 e tx p w m3) (V : lgV w x1 x4 fr th) (I : lgI m m3) : AW ad E0 μX12_league (d + 1 + 1) (lgQ m) 184 [(0, .ref (ad 187)), (1, .int x1), (2, .int (nI fr)), (3, .int (nI th)), (4, .int x4), (5, .int x5)] [] m3 := by
  obtain ⟨v1, v2, v3⟩ := V
  have e203 : ∀ (m4 : Wm) (w4 : Int32), PS 195 ty 76 e tx p w4 m4 → Fx (RS [22]) m3 m4 → (w4 = -1 → w = -1) → AW ad E0 μX12_league (d + 1 + 1) (lgQ m) 203 [(0, .ref (ad 187)), (1, .int x1), (2, .int (nI fr)), (3, .int (nI th)), (4, .int x4), (5, .int x5)] [] m4 := by
    intro m4 w4 h4 f4 hw
    obtain ⟨w0, f0, e0, g0⟩ := I
    have w5 := w0.fx f4
    have f5 : Fx (RS [20, 21, 22, 23, 24, 25, 27, 29, 39, 45, 46, 52]) m m4 := f0.tr f4 (RS_sub rfl)
    have e5 : (m4.1 187 14).toInt = 0 := by rw [f4.at (a := 187) (k := 14) (by decide)]; exact e0
    have g5 : (m4.1 187 10 = m.1 187 10 ∧ m4.1 187 11 = m.1 187 11) ∨ (m4.1 187 11).toInt = 0 := by rw [f4.at (a := 187) (k := 10) (by decide), f4.at (a := 187) (k := 11) (by decide)]; exact g0
    refine g_X12_league_203 ((fine_ok h4).to ?_)
    rintro _ m' ⟨eq, rfl⟩
    obtain rfl := eq.symm
    by_cases hq : w4 = -1
    · refine ⟨1, by rw [if_pos hq], fun _ => ⟨fun _ => ?_, fun c => ?_⟩, fun c => absurd c (by decide)⟩
      · exact lg_copy v3 (th - fr) fr m4 (by omega) ⟨w5, f5, e5, g5⟩
      · rcases v1 (hw hq) with q | ⟨q1, q2⟩
        · exact absurd q c
        · exact lg_copy v3 (th - fr) fr _ (by omega) ⟨((((w5.t rfl q1 q2).t rfl (by decide) (by decide)).t rfl (by decide) (by decide)).n rfl).t rfl (by decide) (by decide), ((((f5.i rfl).i rfl).i rfl).i rfl).i rfl, e5, Or.inr rfl⟩
    · exact ⟨0, by rw [if_neg hq], fun c => absurd rfl c, fun _ => ⟨w5, f5, ⟨_, rfl⟩, e5, g5⟩⟩
  refine g_X12_league_184 ⟨fun _ => e203 m3 w h Fx.rf (fun q => q), fun _ => (fault_ok A h).to ?_⟩
  rintro _ m4 ⟨rfl, h4, f4⟩
  refine ⟨rfl, e203 m4 _ h4 f4 (fun q => ?_)⟩
  unfold fltF at q
  by_cases hq : w = -1
  · exact hq
  · rw [if_neg hq] at q
    exact q
theorem lgI.fx {m3 m4 : Wm} (I : lgI m m3) (f : Fx (RS [22]) m3 m4) : lgI m m4 := by
  obtain ⟨w0, f0, e0, g0⟩ := I
  exact ⟨w0.fx f, f0.tr f (RS_sub rfl), by rw [f.at (a := 187) (k := 14) (by decide)]; exact e0, by rw [f.at (a := 187) (k := 10) (by decide), f.at (a := 187) (k := 11) (by decide)]; exact g0⟩
theorem lg_loop {ty e : Nat} {tx : Nat → Int32} (A : PA 195 80 ty 76 e) : ∀ (k : Nat) (x1 x4 x5 : Int32) (fr th p : Nat) (w : Int32) (m3 : Wm), e - p < k → PS 195 ty 76 e tx p w m3 → lgV w x1 x4 fr th → lgI m m3 → AW ad E0 μX12_league (d + 4 + 1) (lgQ m) 57 [(0, .ref (ad 187)), (1, .int x1), (2, .int (nI fr)), (3, .int (nI th)), (4, .int x4), (5, .int x5), (6, .int 1)] [] m3 := by
  intro k
  induction k with
  | zero => intros; omega
  | succ k ih =>
    intro x1 x4 x5 fr th p w m3 hk h V I
    have e80 : e ≤ 80 := by have := A.2.2.2.1; have := A.2.2.2.2.1; omega
    -- the next round of the loop, or the end
    have nx : ∀ (x1 x4 x5 : Int32) (fr th p' : Nat) (w' : Int32) (m4 : Wm), p ≤ p' → PS 195 ty 76 e tx p' w' m4 → lgV w' x1 x4 fr th → lgI m m4 → Ct ad μX12_passes (d + 4) [.ref (ad 187), .int 59] m4 (fun r m10 => ∃ v11 : Int32, r = some (.int v11) ∧ AW ad E0 μX12_league (d + 4 + 1) (lgQ m) 57 [(0, .ref (ad 187)), (1, .int x1), (2, .int (nI fr)), (3, .int (nI th)), (4, .int x4), (5, .int x5), (6, .int v11)] [] m10) := by
      intro x1 x4 x5 fr th p' w' m4 hp h4 V4 I4
      refine (passes_ok A h4 (by decide)).to ?_
      rintro _ m5 ⟨rfl, h5, f5⟩
      by_cases h59 : passF tx e 59 (p', w') = true
      · rw [if_pos h59] at h5 ⊢
        have hlt : p' < e := pass_lt h59 (by decide)
        exact ⟨1, rfl, ih x1 x4 x5 fr th (p' + 1) w' m5 (by omega) h5 V4 (I4.fx f5)⟩
      · rw [if_neg h59] at h5 ⊢
        exact ⟨0, rfl, g_X12_league_57 ⟨fun _ => lg_end (d := d + 3) A h5 V4 (I4.fx f5), fun c => absurd rfl c⟩⟩
    refine g_X12_league_57 ⟨fun c => absurd c (by decide), fun _ => (fine_ok h).to ?_⟩
    rintro _ m' ⟨eq, rfl⟩
    obtain rfl := eq.symm
    refine ⟨_, rfl, fun _ => lg_end (d := d + 3) A h V I, fun _ => (passes_ok A h (by decide)).to ?_⟩
    rintro _ m4 ⟨rfl, h4, f4⟩
    have I4 := I.fx f4
    refine ⟨_, rfl, fun c => ?_, fun c => ?_⟩
    · have hn : ¬ passF tx e 119 (p, w) = true := (bz_if rfl).1 c
      rw [if_neg hn] at h4
      refine ⟨fun c8 => ?_, fun c8 => ?_⟩
      · have th7 : th ≤ 7 := by
          have : th ≠ 8 := fun q => c8 (by rw [q]; rfl)
          have := V.2.2
          omega
        have L : ∀ (j a p' : Nat) (w' : Int32) (m5 : Wm), a + j = 4 → p ≤ p' → PS 195 ty 76 e tx p' w' m5 → (w' = -1 → w = -1) → lgI m m5 → AW ad E0 μX12_league (d + 4 + 1) (lgQ m) 115 [(0, .ref (ad 187)), (1, .int x1), (2, .int (nI fr)), (3, .int (nI th)), (4, .int x4), (5, .int x5), (7, .int (nI a))] [] m5 := by
          intro j
          induction j with
          | zero =>
            intro a p' w' m5 ha hp h5 hw I5
            refine g_X12_league_115 ⟨fun _ => (passes_ok A h5 (by decide)).to ?_, fun q => absurd ((le_l 4 4 rfl (by omega) (by omega)).mpr (by omega)) q⟩
            rintro _ m6 ⟨rfl, h6, f6⟩
            have I6 := I5.fx f6
            refine ⟨_, rfl, nat_in (by omega) (by decide), ?_⟩
            rw [nI_1]
            obtain ⟨i1, i2, i3, i4⟩ := I6
            refine nx x1 x4 (x5 + 1) fr (th + 1) _ w' _ ?_ (h6.u (by decide) (by decide)) ⟨fun q => V.1 (hw q), V.2.1, by omega⟩ ⟨i1.n rfl, i2.i rfl, i3, i4⟩
            split <;> omega
          | succ j ih2 =>
            intro a p' w' m5 ha hp h5 hw I5
            have l4 : (4 : Int32) * nI th + nI a = nI (4 * th + a) := by rw [l_mul 4 4 rfl, nI_add]
            refine g_X12_league_115 ⟨fun q => absurd ((le_l 4 4 rfl (by omega) (by omega)).mp q) (by omega), fun _ => ?_⟩
            rw [l4, nI_1]
            refine ⟨fun _ => ⟨nat_in (by omega) (by decide), ?_⟩, fun _ => (digit_ok A h5 (lo := 0) (hi := 7) (by decide)).to ?_⟩
            · obtain ⟨i1, i2, i3, i4⟩ := I5
              exact ih2 (a + 1) p' w' _ (by omega) hp (h5.u (by decide) (by decide)) hw ⟨i1.n rfl, i2.i rfl, i3, i4⟩
            · rintro _ m6 ⟨rfl, h6, f6⟩
              have I6 := I5.fx f6
              have g1 := dig_1 (tx := tx) (e := e) (lo := 0) (hi := 7) (s := (p', w'))
              have g2 := dig_2 (tx := tx) (e := e) (lo := 0) (hi := 7) (s := (p', w')) (by have := h5.small A; show p' < _; omega)
              generalize digF tx e 0 7 (p', w') = D at h6 g1 g2 ⊢
              obtain ⟨v, q, u⟩ := D
              dsimp only at h6 g1 g2 ⊢
              obtain ⟨i1, i2, i3, i4⟩ := I6
              exact ⟨v, rfl, nat_in (by omega) (by decide), ih2 (a + 1) q u _ (by omega) (by omega) (h6.u (by decide) (by decide)) (fun z => hw (g2 z).1) ⟨i1.n rfl, i2.i rfl, i3, i4⟩⟩
        exact L 4 0 p w m4 (by decide) (Nat.le_refl _) h4 (fun q => q) I4
      · rw [h4.2.2.2.1]
        refine (fault_ok A h4).to ?_
        rintro _ m5 ⟨rfl, h5, f5⟩
        refine ⟨rfl, nx x1 x4 (x5 + 1) fr th p _ m5 (Nat.le_refl _) h5 ⟨fun q => (flt_2 (p := p) (w := w) q (by have := h.small A; omega)).elim, V.2.1, V.2.2⟩ (I4.fx f5)⟩
    · have hy : passF tx e 119 (p, w) = true := (bz_if rfl).2 c
      rw [if_pos hy] at h4
      refine (digit_ok A h4 (lo := 1) (hi := 4) (by decide)).to ?_
      rintro _ m6 ⟨rfl, h6, f6⟩
      have I6 := I4.fx f6
      have g1 := dig_1 (tx := tx) (e := e) (lo := 1) (hi := 4) (s := (p + 1, w))
      have g2 := dig_2 (tx := tx) (e := e) (lo := 1) (hi := 4) (s := (p + 1, w)) (by have := h4.small A; show p + 1 < _; omega)
      generalize digF tx e 1 4 (p + 1, w) = D at h6 g1 g2 ⊢
      obtain ⟨v, q, u⟩ := D
      dsimp only at h6 g1 g2 ⊢
      refine ⟨v, rfl, nx v 1 (x5 + 1) 0 0 q u m6 (by omega) h6 ⟨fun z => Or.inr ?_, by decide, by decide⟩ I6⟩
      obtain ⟨-, b2, b3, b4⟩ := g2 z
      have e1 : v = hrF tx e (p + 1) - 48 := congrArg Prod.fst b2
      have := dig_v (l := 1) (u := 4) rfl rfl (by decide) (by decide) b3 b4
      rw [e1]
      exact this
theorem s_X12_league (w : WT m) : Ct ad μX12_league (d + 5) [.ref (ad 187)] m (lgQ m) := by
  obtain ⟨n, en, -, n1, n2, n3⟩ := w.nat (a := 187) (k := 1) rfl (by decide)
  obtain ⟨ty, ety, -, y1, y2, y3⟩ := w.nat (a := 187) (k := 14) rfl (by decide)
  have w0 : WT (uI m 187 17 0) := w.n rfl
  have A := pa_text (n := ty) (t := 76) (by omega) (by decide)
  have he80 : minT ty 76 ≤ 80 := by unfold minT; split <;> omega
  refine v_X12_league (d := d + 4) ((begin_ok (na := 80) rfl).to ?_)
  rintro _ m1 ⟨rfl, e1⟩
  have e1' : m1 = bgM (uI m 187 17 0) 195 (nI ty) (nI 76) := by rw [e1]; show _ = bgM _ _ (nI ty) _; rw [← ety]; rfl
  subst e1'
  clear e1
  have f1 : Fx (RS [22]) (uI m 187 17 0) (bgM (uI m 187 17 0) 195 (nI ty) (nI 76)) := bg_fx
  have P1 : PS 195 ty 76 (minT ty 76) ((uI m 187 17 0).1 195) 0 (-1) (bgM (uI m 187 17 0) 195 (nI ty) (nI 76)) := bg_ps he80 (by decide)
  have w1 := w0.fx f1
  generalize bgM (uI m 187 17 0) 195 (nI ty) (nI 76) = mb at f1 P1 w1 ⊢
  have w2 : WT (uI mb 187 14 0) := w1.t rfl (by decide) (by decide)
  have P2 : PS 195 ty 76 (minT ty 76) ((uI m 187 17 0).1 195) 0 (-1) (uI mb 187 14 0) := by
    obtain ⟨b1, b2, b3, b4, b5, b6, b7⟩ := P1
    exact ⟨b1, b2, b3, b4, b5, b6, fun k hk => b7 k hk⟩
  have F2 : Fx (RS [20, 21, 22, 23, 24, 25, 27, 29, 39, 45, 46, 52]) m (uI mb 187 14 0) := (((Fx.rf (S := RS [20, 21, 22, 23, 24, 25, 27, 29, 39, 45, 46, 52]) (m := m)).i (a := 187) (k := 17) (v := 0) rfl).tr f1 (RS_sub rfl)).i rfl
  have I2 : lgI m (uI mb 187 14 0) := ⟨w2, F2, rfl, Or.inl ⟨f1.at (a := 187) (k := 10) (by decide), f1.at (a := 187) (k := 11) (by decide)⟩⟩
  have h01 : (uI mb 187 14 0).1 187 1 = nI n := (f1.at (a := 187) (k := 1) (by decide)).trans en
  generalize uI mb 187 14 0 = mc at w2 P2 F2 I2 h01 ⊢
  refine ⟨rfl, fun _ => ?_, fun _ => ⟨I2.1, I2.2.1, ⟨_, rfl⟩, I2.2.2.1, I2.2.2.2⟩⟩
  rw [h01]
  exact lg_loop A 81 _ 0 0 n n 0 (-1) mc (by omega) P2 ⟨fun _ => Or.inl rfl, by omega, by omega⟩ I2
end LGM
