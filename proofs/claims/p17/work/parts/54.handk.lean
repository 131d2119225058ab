/-! THE PLAN (model): rounds; what is taken over -/
section PLN
variable {ad : Nat → Nat} {d : Nat} {a na sz tp e : Nat} {tx : Nat → Int32}
theorem rd_ok (A : PA a na sz tp e) {n : Nat} (hn : n ≤ 8) (ha : a ≠ 199) {m0 : Wm} {Q : Option Value → Wm → Prop} (hm0 : m0.1 187 1 = nI n) :
    ∀ (k r g : Nat) (np : Nat → Int32) (p : Nat) (w : Int32) (m : Wm), 13 ≤ k + r → r ≤ 12 → (w = -1 → 4 * g ≤ p ∧ (r = 0 ∨ 1 ≤ g)) → g ≤ 40 → PS a sz tp e tx p w m → m.1 199 = np → Fx (RS [22, 27]) m0 m → WT m →
    (∀ m' r' g' np' p' w', rdF tx e n k r g np (p, w) = (r', g', np', (p', w')) → PS a sz tp e tx p' w' m' → m'.1 199 = np' → Fx (RS [22, 27]) m0 m' → WT m' → (w' = -1 → r' ≤ 12 ∧ (r' = 0 ∨ 1 ≤ g')) → g' ≤ 40 → r' ≤ 13 →
      AW ad E0 μX12_plan (d + 4 + 1) Q 238 [(0, .ref (ad 187)), (1, .int (nI r')), (2, .int (nI g'))] [] m') →
    AW ad E0 μX12_plan (d + 4 + 1) Q 41 [(0, .ref (ad 187)), (1, .int (nI r)), (2, .int (nI g)), (3, .int 1)] [] m := by
  intro k
  induction k with
  | zero => intros; omega
  | succ k ih =>
    intro r g np p w m hk hr hg hg4 h hnp f wt K
    refine g_X12_plan_41 ⟨fun c => absurd c (by decide), fun _ => (fine_ok h).to ?_⟩
    rintro _ m' ⟨eq, rfl⟩
    obtain rfl := eq.symm
    by_cases hw : w = -1
    · subst hw
      have hg2 := hg rfl
      refine ⟨1, by rw [if_pos rfl], fun c => absurd c (by decide), fun _ => ?_⟩
      have ex : rdF tx e n (k + 1) r g np (p, -1) = (if passF tx e 59 (gmF tx e n r 81 0 g np (if r = 12 then fltF (nI p) (p, -1) else (p, -1))).2.2 = true then rdF tx e n k (r + 1) (gmF tx e n r 81 0 g np (if r = 12 then fltF (nI p) (p, -1) else (p, -1))).1 (gmF tx e n r 81 0 g np (if r = 12 then fltF (nI p) (p, -1) else (p, -1))).2.1 ((gmF tx e n r 81 0 g np (if r = 12 then fltF (nI p) (p, -1) else (p, -1))).2.2.1 + 1, (gmF tx e n r 81 0 g np (if r = 12 then fltF (nI p) (p, -1) else (p, -1))).2.2.2) else (r + 1, (gmF tx e n r 81 0 g np (if r = 12 then fltF (nI p) (p, -1) else (p, -1))).1, (gmF tx e n r 81 0 g np (if r = 12 then fltF (nI p) (p, -1) else (p, -1))).2.1, (gmF tx e n r 81 0 g np (if r = 12 then fltF (nI p) (p, -1) else (p, -1))).2.2)) := if_pos rfl
      have go : ∀ (w1 : Int32) (m1 : Wm), (if r = 12 then fltF (nI p) (p, -1) else (p, -1)) = (p, w1) → (w1 = -1 → r < 12) → PS a sz tp e tx p w1 m1 → m1.1 199 = np → Fx (RS [22, 27]) m0 m1 → WT m1 → AW ad E0 μX12_plan (d + 4 + 1) Q 72 [(0, .ref (ad 187)), (1, .int (nI r)), (2, .int (nI g)), (4, .int 0), (5, .int 1)] [] m1 := by
        intro w1 m1 hs1 hr1 h1 c1 f1 wt1
        rw [hs1] at ex
        have hp80 := h1.small A
        have hpe : p ≤ e := h1.2.2.2.2.2.1
        have e80 : e ≤ 80 := by have := A.2.2.2.1; have := A.2.2.2.2.1; omega
        refine gm_ok A hn (by omega) ha hm0 81 0 g np p w1 m1 (by omega) (fun _ => hg2.1) hg4 h1 c1 f1 wt1 ?_
        intro m2 g' np' p' w' hG h2 c2 f2 wt2 hw' hg4'
        rw [hG] at ex
        refine (passes_ok A h2 (by decide)).to ?_
        rintro _ m3 ⟨rfl, h3, f3⟩
        have c3 : m3.1 199 = np' := (fx_cell (ρ := 27) f3 (fun _ => rfl) rfl).trans c2
        have F3 : Fx (RS [22, 27]) m0 m3 := f2.tr f3 (RS_sub rfl)
        have wt3 := wt2.fx f3
        by_cases h59 : passF tx e 59 (p', w') = true
        · have hwm : w' = -1 := (of_decide_eq_true h59).1
          have hw2 := hw' hwm
          rw [if_pos h59] at h3 ⊢
          have ex2 : rdF tx e n (k + 1) r g np (p, -1) = rdF tx e n k (r + 1) g' np' (p' + 1, w') := ex.trans (if_pos h59)
          have hr12 : r < 12 := by
            by_cases h12 : r = 12
            · exfalso
              have hw1 : w1 ≠ -1 := fun q => by have := hr1 q; omega
              have : gmF tx e n r 81 0 g np (p, w1) = (g, np, (p, w1)) := if_neg hw1
              rw [this] at hG
              have := congrArg (fun z => z.2.2.2) hG
              exact hw1 (this.trans hwm)
            · omega
          refine ⟨1, rfl, ?_⟩
          rw [nI_1]
          refine ih (r + 1) g' np' (p' + 1) w' m3 (by omega) (by omega) (fun _ => ⟨by omega, Or.inr hw2.2⟩) hg4' h3 c3 F3 wt3 ?_
          intro m4 r4 g4 np4 p4 w4 hq
          exact K m4 r4 g4 np4 p4 w4 (ex2.trans hq)
        · rw [if_neg h59] at h3 ⊢
          refine ⟨0, rfl, ?_⟩
          rw [nI_1]
          refine g_X12_plan_41 ⟨fun _ => ?_, fun c => absurd rfl c⟩
          refine K m3 (r + 1) g' np' p' w' (ex.trans (if_neg h59)) h3 c3 F3 wt3 (fun q => ⟨?_, Or.inr (hw' q).2⟩) hg4' (by omega)
          by_cases h12 : r = 12
          · exfalso
            have hw1 : w1 ≠ -1 := fun q => by have := hr1 q; omega
            have : gmF tx e n r 81 0 g np (p, w1) = (g, np, (p, w1)) := if_neg hw1
            rw [this] at hG
            have := congrArg (fun z => z.2.2.2) hG
            exact hw1 (this.trans q)
          · omega
      have t12 : (nI r = 12) ↔ r = 12 := by
        refine ⟨fun q => ?_, fun q => by rw [q]; rfl⟩
        have h1 := congrArg Int32.toInt q
        rw [nI_toInt (by omega)] at h1
        have : (12 : Int32).toInt = 12 := rfl
        omega
      refine ⟨fun c => ?_, fun c => ?_⟩
      · have h12 : r ≠ 12 := fun q => c (t12.mpr q)
        exact go (-1) m (if_neg h12) (fun _ => by omega) h hnp f wt
      · have h12 := t12.mp c
        rw [h.2.2.2.1]
        refine (fault_ok A h).to ?_
        rintro _ m2 ⟨rfl, h2, f2⟩
        have e2 : (fltF (nI p) (p, (-1 : Int32))).2 = nI p := rfl
        rw [e2] at h2
        refine ⟨rfl, go (nI p) m2 (if_pos h12) (fun q => ?_) h2 ((fx_cell (ρ := 27) f2 (fun _ => rfl) rfl).trans hnp) (f.tr f2 (RS_sub rfl)) (wt.fx f2)⟩
        exact absurd q.symm (m1_ne p (by have := h.small A; omega))
    · have ex : rdF tx e n (k + 1) r g np (p, w) = (r, g, np, (p, w)) := if_neg hw
      rw [ex] at K
      exact ⟨0, by rw [if_neg hw], fun _ => K m r g np p w rfl h hnp f wt (fun q => absurd q hw) hg4 (by omega), fun c => absurd rfl c⟩
/-- the bytes read: at most LONG -/
def minT (n t : Nat) : Nat := if n < t then n else t
theorem pa_text {n t : Nat} (hn : n ≤ 80) (ht : t ≤ 80) : PA 195 80 n t (minT n t) := by
  unfold minT
  by_cases h : n < t
  · rw [if_pos h]; exact ⟨rfl, hn, ht, by omega, by decide, by decide, by omega, by omega, Or.inl rfl⟩
  · rw [if_neg h]; exact ⟨rfl, hn, ht, by omega, by decide, by decide, by omega, by omega, Or.inr rfl⟩
theorem s_X12_plan {m : Wm} (w : WT m) : Ct ad μX12_plan (d + 5) [.ref (ad 187)] m (fun r m' => WT m' ∧ Fx (RS [20, 21, 22, 25, 27, 52, 55]) m m' ∧ (∃ v : Int32, r = some (.int v)) ∧ (m'.1 187 14).toInt = 0 ∧ ((m'.1 187 10 = m.1 187 10 ∧ m'.1 187 11 = m.1 187 11) ∨ (m'.1 187 11).toInt = 0 ∨ 1 ≤ (m'.1 187 10).toInt)) := by
  obtain ⟨n, en, -, n1, n2, n3⟩ := w.nat (a := 187) (k := 1) rfl (by decide)
  obtain ⟨ty, ety, -, y1, y2, y3⟩ := w.nat (a := 187) (k := 14) rfl (by decide)
  have w0 : WT (uI m 187 17 0) := w.n rfl
  have A := pa_text (n := ty) (t := 76) (by omega) (by decide)
  have he80 : minT ty 76 ≤ 80 := by unfold minT; split <;> omega
  refine v_X12_plan (d := d + 4) ((begin_ok (na := 80) rfl).to ?_)
  rintro _ m1 ⟨rfl, e1⟩
  have e1' : m1 = bgM (uI m 187 17 0) 195 (nI ty) (nI 76) := by rw [e1]; show _ = bgM _ _ (nI ty) _; rw [← ety]; rfl
  subst e1'
  clear e1
  have f1 : Fx (RS [22]) (uI m 187 17 0) (bgM (uI m 187 17 0) 195 (nI ty) (nI 76)) := bg_fx
  have P1 : PS 195 ty 76 (minT ty 76) ((uI m 187 17 0).1 195) 0 (-1) (bgM (uI m 187 17 0) 195 (nI ty) (nI 76)) := bg_ps he80 (by decide)
  have w1 := w0.fx f1
  generalize bgM (uI m 187 17 0) 195 (nI ty) (nI 76) = mb at f1 P1 w1 ⊢
  have w2 : WT (uI mb 187 14 0) := w1.t rfl (by decide) (by decide)
  have P2 : PS 195 ty 76 (minT ty 76) ((uI m 187 17 0).1 195) 0 (-1) (uI mb 187 14 0) := by
    obtain ⟨b1, b2, b3, b4, b5, b6, b7⟩ := P1
    exact ⟨b1, b2, b3, b4, b5, b6, fun k hk => b7 k hk⟩
  have F2 : Fx (RS [20, 21, 22, 25, 27, 52, 55]) m (uI mb 187 14 0) := (((Fx.rf (S := RS [20, 21, 22, 25, 27, 52, 55]) (m := m)).i (a := 187) (k := 17) (v := 0) rfl).tr f1 (RS_sub rfl)).i rfl
  have z14 : ((uI mb 187 14 0).1 187 14).toInt = 0 := rfl
  have h10 : (uI mb 187 14 0).1 187 10 = m.1 187 10 := f1.at (a := 187) (k := 10) (by decide)
  have h11 : (uI mb 187 14 0).1 187 11 = m.1 187 11 := f1.at (a := 187) (k := 11) (by decide)
  have h01 : (uI mb 187 14 0).1 187 1 = nI n := (f1.at (a := 187) (k := 1) (by decide)).trans en
  have h19 : (uI mb 187 14 0).1 187 19 = nI ty := P2.2.1
  generalize uI mb 187 14 0 = mc at w2 P2 F2 z14 h10 h11 h01 h19 ⊢
  refine ⟨rfl, ?_⟩
  -- the end
  have fin : ∀ (m' : Wm) (r' g' : Nat) (p' : Nat) (w' : Int32), PS 195 ty 76 (minT ty 76) ((uI m 187 17 0).1 195) p' w' m' → Fx (RS [22, 27]) mc m' → WT m' → (w' = -1 → r' ≤ 12 ∧ (r' = 0 ∨ 1 ≤ g')) → g' ≤ 40 → r' ≤ 13 →
      AW ad E0 μX12_plan (d + 4 + 1) (fun r m' => WT m' ∧ Fx (RS [20, 21, 22, 25, 27, 52, 55]) m m' ∧ (∃ v : Int32, r = some (.int v)) ∧ (m'.1 187 14).toInt = 0 ∧ ((m'.1 187 10 = m.1 187 10 ∧ m'.1 187 11 = m.1 187 11) ∨ (m'.1 187 11).toInt = 0 ∨ 1 ≤ (m'.1 187 10).toInt)) 238 [(0, .ref (ad 187)), (1, .int (nI r')), (2, .int (nI g'))] [] m' := by
    intro m' r' g' p' w' h f wt hw hg hr
    have cp : r' ≤ 12 → (r' = 0 ∨ 1 ≤ g') → ∀ (j x4 : Nat) (m3 : Wm), x4 + j = 4 * g' → WT m3 → Fx (RS [20, 21, 22, 25, 27, 52, 55]) m m3 → (m3.1 187 14).toInt = 0 → AW ad E0 μX12_plan (d + 4 + 1) (fun r m' => WT m' ∧ Fx (RS [20, 21, 22, 25, 27, 52, 55]) m m' ∧ (∃ v : Int32, r = some (.int v)) ∧ (m'.1 187 14).toInt = 0 ∧ ((m'.1 187 10 = m.1 187 10 ∧ m'.1 187 11 = m.1 187 11) ∨ (m'.1 187 11).toInt = 0 ∨ 1 ≤ (m'.1 187 10).toInt)) 274 [(0, .ref (ad 187)), (1, .int (nI r')), (2, .int (nI g')), (4, .int (nI x4))] [] m3 := by
      intro hr12 hrg j
      have l4 : (4 : Int32) * nI g' = nI (4 * g') := l_mul 4 4 rfl g'
      have tr' : (nI r').toInt = (r' : Int) := nI_toInt (by omega)
      have tg' : (nI g').toInt = (g' : Int) := nI_toInt (by omega)
      induction j with
      | zero =>
        intro x4 m3 hx wt3 f3 h14
        refine g_X12_plan_274 ?_
        rw [l4]
        refine ⟨fun _ => ⟨((wt3.t rfl (by omega) (by omega)).t rfl (by omega) (by omega)).n rfl, ((f3.i rfl).i rfl).i rfl, ⟨_, rfl⟩, h14, ?_⟩, fun c => absurd ((nI_leI (by omega) (by omega)).mpr (by omega)) c⟩
        rcases hrg with q | q
        · exact Or.inr (Or.inl (by show (nI r').toInt = 0; omega))
        · exact Or.inr (Or.inr (by show 1 ≤ (nI g').toInt; omega))
      | succ j ih =>
        intro x4 m3 hx wt3 f3 h14
        refine g_X12_plan_274 ?_
        rw [l4, nI_1, nI_clamp (by omega)]
        refine ⟨fun c => absurd ((nI_leI (by omega) (by omega)).mp c) (by omega), fun _ => ⟨nat_in (by omega) (by decide), nat_in (by omega) (by decide), ?_⟩⟩
        refine ih (x4 + 1) _ (by omega) ?_ (f3.i rfl) h14
        by_cases hx4 : x4 % 4 < 2
        · have e9 : TY 199 x4 = some (0, 7) := if_pos hx4
          have e4 : TY 194 x4 = some (0, 7) := if_pos hx4
          have := wt3.at e9
          exact wt3.t e4 this.1 this.2
        · exact wt3.n (if_neg hx4)
    have e257 : ∀ (m3 : Wm) (w3 : Int32), PS 195 ty 76 (minT ty 76) ((uI m 187 17 0).1 195) p' w3 m3 → Fx (RS [22, 27]) mc m3 → WT m3 → (w3 = -1 → w' = -1) → AW ad E0 μX12_plan (d + 4 + 1) (fun r m' => WT m' ∧ Fx (RS [20, 21, 22, 25, 27, 52, 55]) m m' ∧ (∃ v : Int32, r = some (.int v)) ∧ (m'.1 187 14).toInt = 0 ∧ ((m'.1 187 10 = m.1 187 10 ∧ m'.1 187 11 = m.1 187 11) ∨ (m'.1 187 11).toInt = 0 ∨ 1 ≤ (m'.1 187 10).toInt)) 257 [(0, .ref (ad 187)), (1, .int (nI r')), (2, .int (nI g'))] [] m3 := by
      intro m3 w3 h3 f3 wt3 hw3
      have F3 := F2.tr f3 (RS_sub rfl)
      have e14 : (m3.1 187 14).toInt = 0 := by rw [f3.at (a := 187) (k := 14) (by decide)]; exact z14
      refine g_X12_plan_257 ((fine_ok h3).to ?_)
      rintro _ m' ⟨eq, rfl⟩
      obtain rfl := eq.symm
      by_cases hq : w3 = -1
      · refine ⟨1, by rw [if_pos hq], fun _ => ?_, fun c => absurd c (by decide)⟩
        have := hw (hw3 hq)
        exact cp this.1 this.2 (4 * g') 0 m3 (by omega) wt3 F3 e14
      · exact ⟨0, by rw [if_neg hq], fun c => absurd rfl c, fun _ => ⟨wt3, F3, ⟨_, rfl⟩, e14, Or.inl ⟨(f3.at (a := 187) (k := 10) (by decide)).trans h10, (f3.at (a := 187) (k := 11) (by decide)).trans h11⟩⟩⟩
    refine g_X12_plan_238 ⟨fun _ => e257 m' w' h f wt (fun q => q), fun _ => (fault_ok A h).to ?_⟩
    rintro _ m3 ⟨rfl, h3, f3⟩
    refine ⟨rfl, e257 m3 _ h3 (f.tr f3 (RS_sub rfl)) (wt.fx f3) (fun q => ?_)⟩
    unfold fltF at q
    by_cases hq : w' = -1
    · exact hq
    · rw [if_neg hq] at q
      exact q
  refine ⟨fun _ => g_X12_plan_41 ⟨fun _ => fin mc 0 0 0 (-1) P2 Fx.rf w2 (fun _ => ⟨by decide, Or.inl rfl⟩) (by decide) (by decide), fun c => absurd rfl c⟩, fun _ => ?_⟩
  exact rd_ok A (n := n) (by omega) (by decide) (m0 := mc) h01 13 0 0 (mc.1 199) 0 (-1) mc (by decide) (by decide) (fun _ => ⟨by decide, Or.inl rfl⟩) (by decide) P2 rfl Fx.rf w2 (fun m' r' g' np' p' w' _ h _ f wt hw hg hr => fin m' r' g' p' w' h f wt hw hg hr)
end PLN
