/-! THE CLASS'S league() -/
section LCL
variable {ad : Nat → Nat} {d : Nat} {m : Wm}
theorem minT_i {t : Nat} (ht : t ≤ 80) : (if (76 : Int32) < nI t then (76 : Int32) else nI t) = nI (minT t 76) := by
  unfold minT
  by_cases h : t < 76
  · rw [if_neg (fun q => by have := (lt_l 76 76 rfl (by decide) (by omega)).mp q; omega), if_pos h]
  · rw [if_neg h]
    by_cases h2 : 76 < t
    · rw [if_pos ((lt_l 76 76 rfl (by decide) (by omega)).mpr h2)]
      rfl
    · have : t = 76 := by omega
      subst this
      rw [if_neg (by decide)]
def rdQ (m : Wm) (HZ : Prop) (O : Nat ⊕ LgSt) (r : Option Value) (m' : Wm) : Prop := WT m' ∧ Fx (RS [3]) m m' ∧ (∀ q, O = .inl q → r = some (.int (nI q)) ∧ q ≤ 76) ∧ ∀ L, O = .inr L → r = some (.int (-1)) ∧ LCT m HZ L m'
theorem e_read {n a0 t : Nat} {sk0 : Nat → Int32} {HZ : Prop} {il0 : Nat → Bool} (w : WT m) (hn : m.1 3 3 = nI n) (hn8 : n ≤ 8) (ha0 : m.1 3 4 = nI a0) (h1 : 1 ≤ a0) (h4 : a0 ≤ 4) (ht : m.1 1 1 = nI t) (ht80 : t ≤ 80) (hsk : ∀ k, k < 32 → m.1 22 k = sk0 k) (hil : HZ → ∀ s, s < 8 → bt (m.1 3 5) s = (decide (s < n) && il0 s)) :
    Ct ad μX4_read (d + 4) [.ref (ad 15), .ref (ad 1), .ref (ad 3), .ref (ad 21)] m (rdQ m HZ (LO (m.1 2) (decide (76 < t)) (minT t 76) 0 (0, 0, 0, n, a0, n, false, il0, sk0))) := by
  generalize hO0 : LO (m.1 2) (decide (76 < t)) (minT t 76) 0 (0, 0, 0, n, a0, n, false, il0, sk0) = O
  have e76 : minT t 76 ≤ 76 := by unfold minT; split <;> omega
  have et : minT t 76 ≤ t := by unfold minT; split <;> omega
  have L : ∀ (k p st dg ln sd ar fr : Nat) (wp : Bool) (il : Nat → Bool) (sk : Nat → Int32) (m1 : Wm), minT t 76 - p < k → p ≤ minT t 76 → WT m1 → Fx (RS [3]) m m1 → lcV st dg sd ar fr wp → LC m HZ st dg ln sd ar fr wp il sk m1 → LO (m.1 2) (decide (76 < t)) (minT t 76 - p) p (st, dg, ln, sd, ar, fr, wp, il, sk) = O →
      AW ad E0 μX4_read (d + 4) (rdQ m HZ O) 61 [(0, .ref (ad 15)), (1, .ref (ad 1)), (4, .int (nI (minT t 76))), (5, .int (nI p))] [] m1 := by
    intro k
    induction k with
    | zero => intros; omega
    | succ k ih =>
      intro p st dg ln sd ar fr wp il sk m1 hk hp w1 f1 V C hO
      have t1 : m1.1 1 1 = nI t := (f1.at (a := 1) (k := 1) (by decide)).trans ht
      have t2 : ∀ k, m1.1 2 k = m.1 2 k := fun k => f1.at (a := 2) (k := k) (by show ¬ (([3] : List Nat).elem 0 = true); decide)
      refine g_X4_read_61 ⟨fun c => ?_, fun c => ?_⟩
      · have hpe : p = minT t 76 := by have := (nI_leI (a := minT t 76) (b := p) (by omega) (by omega)).mp c; omega
        rw [t1]
        rw [show minT t 76 - p = 0 by omega] at hO
        refine ⟨fun q => ?_, fun q => (e_canEnd V C).to ?_⟩
        · have q' := (lt_l 76 76 rfl (by decide) (by omega)).mp q
          have hb : decide (76 < t) = true := decide_eq_true q'
          rw [LO_n (by rw [hb]; exact fun z => absurd z.1 (by decide))] at hO
          refine ⟨w1, f1, fun q2 h2 => ?_, fun L2 h2 => ?_⟩
          · rw [h2] at hO; cases hO; exact ⟨by rw [hpe], by omega⟩
          · rw [h2] at hO; cases hO
        · have hb : decide (76 < t) = false := decide_eq_false (fun z => q ((lt_l 76 76 rfl (by decide) (by omega)).mpr z))
          rintro _ m' ⟨eq, rfl⟩
          obtain rfl := eq.symm
          by_cases hE : lEnd st dg ar
          · rw [LO_e ⟨hb, hE⟩] at hO
            refine ⟨1, by rw [if_pos hE], fun _ => ⟨w1, f1, fun q2 h2 => ?_, fun L2 h2 => ?_⟩, fun z => absurd z (by decide)⟩
            · rw [h2] at hO; cases hO
            · rw [h2] at hO; cases hO; exact ⟨rfl, V, C⟩
          · rw [LO_n (fun z => hE z.2)] at hO
            refine ⟨0, by rw [if_neg hE], fun z => absurd rfl z, fun _ => ⟨w1, f1, fun q2 h2 => ?_, fun L2 h2 => ?_⟩⟩
            · rw [h2] at hO; cases hO; exact ⟨by rw [hpe], by omega⟩
            · rw [h2] at hO; cases hO
      · have hpe : p < minT t 76 := Nat.lt_of_not_le (fun z => c ((nI_leI (a := minT t 76) (b := p) (by omega) (by omega)).mpr z))
        rw [nI_clamp (by omega), t2]
        rw [show minT t 76 - p = (minT t 76 - (p + 1)) + 1 by omega] at hO
        refine ⟨nat_in (by omega) (by decide), (e_take (m0 := m) w1 f1 V C).to ?_⟩
        rintro r m2 ⟨w2, f2, h⟩
        rcases h with ⟨rfl, L2, e2, hL⟩ | ⟨rfl, e2⟩
        · rw [LO_s e2] at hO
          obtain ⟨st', dg', ln', sd', ar', fr', wp', il', sk'⟩ := L2
          refine ⟨1, rfl, fun _ => ?_, fun z => absurd z (by decide)⟩
          rw [nI_1]
          exact ih (p + 1) st' dg' ln' sd' ar' fr' wp' il' sk' m2 (by omega) (by omega) w2 f2 hL.1 hL.2 hO
        · rw [LO_f e2] at hO
          refine ⟨0, rfl, fun z => absurd rfl z, fun _ => ⟨w2, f2, fun q2 h2 => ?_, fun L2 h2 => ?_⟩⟩
          · rw [h2] at hO; cases hO; exact ⟨rfl, by omega⟩
          · rw [h2] at hO; cases hO
  refine v_X4_read (d := d + 3) St_21 ((e_copy w SS_16 SS_21 (by omega)).to ?_)
  rintro _ m1 ⟨w1, f1, rfl, k1, k2, k3⟩
  refine ⟨rfl, ?_⟩
  have g33 : m1.1 3 3 = nI n := (f1.at (a := 3) (k := 3) (by decide)).trans hn
  have g34 : m1.1 3 4 = nI a0 := (f1.at (a := 3) (k := 4) (by decide)).trans ha0
  have g35 : m1.1 3 5 = m.1 3 5 := f1.at (a := 3) (k := 5) (by decide)
  have g11 : m1.1 1 1 = nI t := (f1.at (a := 1) (k := 1) (by decide)).trans ht
  have e34 : (uI m1 15 1 (m1.1 3 3)).1 3 4 = nI a0 := g34
  have e35 : (uI (uI m1 15 1 (m1.1 3 3)) 15 2 ((uI m1 15 1 (m1.1 3 3)).1 3 4)).1 3 5 = m.1 3 5 := g35
  rw [e35, e34, g33]
  have e11 : (uI (uI (uI (uI (uI (uI m1 15 1 (nI n)) 15 2 (nI a0)) 15 3 (m.1 3 5)) 15 4 (0 : Int32)) 15 6 (0 : Int32)) 15 7 (0 : Int32)).1 1 1 = nI t := g11
  rw [e11, minT_i ht80]
  have tn0 : (nI n).toInt = n := nI_toInt (by omega)
  have ta0 : (nI a0).toInt = a0 := nI_toInt (by omega)
  refine L 81 0 0 0 0 n a0 n false il0 sk0 _ (by omega) (Nat.zero_le _) ((((((w1.t rfl (by omega) (by omega)).t rfl (by omega) (by omega)).n rfl).n rfl).n rfl).n rfl) ((((((f1.tr (Fx.rf (S := RS [3])) (RS_sub rfl)).i rfl).i rfl).i rfl).i rfl).i rfl |>.i rfl) ⟨by decide, hn8, h1, h4, Nat.le_refl _, fun q => absurd q (by decide), fun q => absurd q (by decide)⟩ ⟨rfl, fun q => absurd q (by decide), rfl, rfl, rfl, rfl, k3, hil, fun k hk => (k1 k hk).trans (hsk k hk), fun j s hj1 hj2 hs => ?_⟩ hO0
  rw [if_pos (by by_cases q : s < n; exact Or.inl q; exact Or.inr ⟨rfl, by omega⟩)]
  exact (u_ne (by omega)).trans ((u_ne (by omega)).trans ((u_ne (by omega)).trans ((u_ne (by omega)).trans ((u_ne (by omega)).trans ((u_ne (by omega)).trans (k2 j s hj1 hj2 hs))))))
/-- what stands behind a league that was taken -/
def lgC (m : Wm) (HZ : Prop) : LgSt → Wm → Prop
  | (_, _, _, sd, ar, fr, wp, il, sk), m' => m'.1 3 3 = nI sd ∧ m'.1 3 4 = nI ar ∧ m'.1 1 1 = 0 ∧ m'.1 31 1 = 0 ∧ (∀ k, k < 2 → m'.1 (173 + 7 * k) 4 = 0) ∧
    (if wp = true then m'.1 0 11 = 0 ∧ m'.1 0 15 = 0 ∧ (∀ P, m.2.2 0 9 = some P → m'.1 P 5 = 0 ∧ m'.1 P 6 = 0) else m'.1 0 11 = m.1 0 11 ∧ m'.1 0 15 = m.1 0 15 ∧ ∀ b k, 133 < b → b < 146 → m'.1 b k = m.1 b k) ∧
    (HZ → ∀ s, s < 8 → bt (m'.1 3 5) s = (decide (s < sd) && il s)) ∧ (∀ k, k < 32 → m'.1 22 k = sk k) ∧ m'.1 21 4 = m.1 21 4 ∧
    (∀ j s, 2 ≤ j → j ≤ 4 → s < 8 → m'.1 (21 + j) s = if s < fr ∨ (wp = false ∧ sd ≤ s) then m.1 (21 + j) s else 0)
theorem e_clearP {b0 : Nat} (hb0 : Pl b0) : Ct ad μX3_clear d [.ref (ad b0)] m (fun r m' => r = none ∧ m' = uI (uI m b0 5 0) b0 6 0) := v_X3_clear hb0 ⟨rfl, rfl⟩
def lcQ (m : Wm) (HZ : Prop) (O : Nat ⊕ LgSt) (r : Option Value) (m' : Wm) : Prop := WT m' ∧ Fx (RS [0, 3, 4, 7, 8, 13, 41, 42, 44, 53]) m m' ∧ (∀ k, m'.1 2 k = m.1 2 k) ∧ (∀ q, O = .inl q → r = some (.int (-1 - nI q)) ∧ m'.1 1 1 = 0 ∧ Fx (RS [0, 3]) m m') ∧
  ∀ st dg ln sd ar fr wp il sk, O = .inr (st, dg, ln, sd, ar, fr, wp, il, sk) → r = some (.int (nI ln)) ∧ lcV st dg sd ar fr wp ∧ lgC m HZ (st, dg, ln, sd, ar, fr, wp, il, sk) m'
theorem rg_7 {b : Nat} (k : Nat) (h1 : 133 < b) (h2 : b < 146) : rg b k = 7 := by
  have h : b = 134 ∨ b = 135 ∨ b = 136 ∨ b = 137 ∨ b = 138 ∨ b = 139 ∨ b = 140 ∨ b = 141 ∨ b = 142 ∨ b = 143 ∨ b = 144 ∨ b = 145 := by omega
  rcases h with rfl | rfl | rfl | rfl | rfl | rfl | rfl | rfl | rfl | rfl | rfl | rfl <;> rfl
theorem e_101 {m5 : Wm} {Q : Option Value → Wm → Prop} (w : WT m5) (h : Q (some (.int (m5.1 15 4))) (uI (uI m5 173 4 0) 180 4 0)) : AW ad E0 μX11_league (d + 1) Q 101 [(0, .ref (ad 0)), (2, .int 0)] [] m5 := by
  refine g_X11_league_101 ⟨fun c => absurd c (by decide), fun _ => ⟨nat_in (k := 0) (by decide) (by decide), 173, w.keepx (k := 0) (by decide), Ke_173, ?_⟩⟩
  refine g_X11_league_101 ⟨fun c => absurd c (by decide), fun _ => ⟨nat_in (k := 1) (by decide) (by decide), 180, w.keepx (k := 1) (by decide), Ke_180, ?_⟩⟩
  exact g_X11_league_101 ⟨fun _ => h, fun c => absurd (by decide) c⟩
theorem e_leagueC {n a0 t : Nat} {sk0 : Nat → Int32} {HZ : Prop} {il0 : Nat → Bool} (w : WT m) (hn : m.1 3 3 = nI n) (hn8 : n ≤ 8) (ha0 : m.1 3 4 = nI a0) (h1 : 1 ≤ a0) (h4 : a0 ≤ 4) (ht : m.1 1 1 = nI t) (ht80 : t ≤ 80) (ht0 : t ≠ 0) (hsk : ∀ k, k < 32 → m.1 22 k = sk0 k) (hil : HZ → ∀ s, s < 8 → bt (m.1 3 5) s = (decide (s < n) && il0 s)) :
    Ct ad μX11_league (d + 5) [.ref (ad 0)] m (lcQ m HZ (LO (m.1 2) (decide (76 < t)) (minT t 76) 0 (0, 0, 0, n, a0, n, false, il0, sk0))) := by
  refine v_X11_league (d := d + 4) ⟨fun _ => (e_read w hn hn8 ha0 h1 h4 ht ht80 hsk hil).to ?_, fun c => ?_⟩
  · generalize LO (m.1 2) (decide (76 < t)) (minT t 76) 0 (0, 0, 0, n, a0, n, false, il0, sk0) = O
    rintro r m1 ⟨w1, f1, hq, hL⟩
    have t2 : ∀ k, m1.1 2 k = m.1 2 k := fun k => f1.at (a := 2) (k := k) (by show ¬ (([3] : List Nat).elem 0 = true); decide)
    have w2 : WT (uI m1 1 1 (0 : Int32)) := w1.t rfl (by decide) (by decide)
    have f2 : Fx (RS [0, 3]) m (uI m1 1 1 (0 : Int32)) := ((Fx.rf (S := RS [0, 3])).tr f1 (RS_sub rfl)).i rfl
    cases hO : O with
    | inl q =>
      obtain ⟨rfl, q76⟩ := hq q hO
      refine ⟨nI q, rfl, fun z => absurd z.symm (m1_ne q (by omega)), fun _ => ⟨w2, (Fx.rf (S := RS [0, 3, 4, 7, 8, 13, 41, 42, 44, 53])).tr f2 (RS_sub rfl), t2, fun q2 h2 => ?_, fun _ _ _ _ _ _ _ _ _ h2 => by cases h2⟩⟩
      cases h2
      exact ⟨rfl, rfl, f2⟩
    | inr L =>
      obtain ⟨rfl, hC⟩ := hL L hO
      obtain ⟨st, dg, ln, sd, ar, fr, wp, il, sk⟩ := L
      obtain ⟨V, C⟩ := hC
      obtain ⟨c1, c2, c3, c4, c5, c6, c7, c8, c9, c10⟩ := C
      have V0 := V
      obtain ⟨V1, V2, V3, V4, V5, V6, V7⟩ := V
      refine ⟨-1, rfl, fun _ => ?_, fun z => absurd rfl z⟩
      refine v_X4_enter (d := d + 3) St_21 ((e_copy w2 SS_21 SS_16 (by omega)).to ?_)
      rintro _ m3 ⟨w3, f3, rfl, k1, k2, k3⟩
      refine ⟨rfl, rfl, ?_⟩
      have g15 : ∀ k, m3.1 15 k = m1.1 15 k := fun k => f3.at (a := 15) (k := k) (by show ¬ (([4] : List Nat).elem 3 = true); decide)
      have tsd : (nI sd).toInt = sd := nI_toInt (by omega)
      have tar : (nI ar).toInt = ar := nI_toInt (by omega)
      have e2 : (uI m3 3 3 (m3.1 15 1)).1 15 2 = nI ar := (g15 2).trans c5
      have e3 : (uI (uI m3 3 3 (m3.1 15 1)) 3 4 ((uI m3 3 3 (m3.1 15 1)).1 15 2)).1 15 3 = m1.1 15 3 := g15 3
      rw [e3, e2, (g15 1).trans c4]
      have w4 : WT (uI (uI (uI m3 3 3 (nI sd)) 3 4 (nI ar)) 3 5 (m1.1 15 3)) := ((w3.t rfl (by omega) (by omega)).t rfl (by omega) (by omega)).n rfl
      have f4 : Fx (RS [0, 3, 4, 41, 42]) m (uI (uI (uI m3 3 3 (nI sd)) 3 4 (nI ar)) 3 5 (m1.1 15 3)) := (((((Fx.rf (S := RS [0, 3, 4, 41, 42])).tr f2 (RS_sub rfl)).tr f3 (RS_sub rfl)).i rfl).i rfl).i rfl
      have e157 : (uI (uI (uI m3 3 3 (nI sd)) 3 4 (nI ar)) 3 5 (m1.1 15 3)).1 15 7 = if wp = true then 1 else 0 := (g15 7).trans c6
      have e154 : (uI (uI (uI m3 3 3 (nI sd)) 3 4 (nI ar)) 3 5 (m1.1 15 3)).1 15 4 = nI ln := (g15 4).trans c3
      have j33 : (uI (uI (uI m3 3 3 (nI sd)) 3 4 (nI ar)) 3 5 (m1.1 15 3)).1 3 3 = nI sd := rfl
      have j34 : (uI (uI (uI m3 3 3 (nI sd)) 3 4 (nI ar)) 3 5 (m1.1 15 3)).1 3 4 = nI ar := rfl
      have j35 : (uI (uI (uI m3 3 3 (nI sd)) 3 4 (nI ar)) 3 5 (m1.1 15 3)).1 3 5 = m1.1 15 3 := rfl
      have j11 : (uI (uI (uI m3 3 3 (nI sd)) 3 4 (nI ar)) 3 5 (m1.1 15 3)).1 1 1 = 0 := f3.at (a := 1) (k := 1) (by decide)
      have j2 : ∀ k, (uI (uI (uI m3 3 3 (nI sd)) 3 4 (nI ar)) 3 5 (m1.1 15 3)).1 2 k = m.1 2 k := fun k => (f3.at (a := 2) (k := k) (by show ¬ (([4] : List Nat).elem 0 = true); decide)).trans (t2 k)
      have j22 : ∀ k, k < 32 → (uI (uI (uI m3 3 3 (nI sd)) 3 4 (nI ar)) 3 5 (m1.1 15 3)).1 22 k = sk k := fun k hk => (k1 k hk).trans (c9 k hk)
      have j21 : (uI (uI (uI m3 3 3 (nI sd)) 3 4 (nI ar)) 3 5 (m1.1 15 3)).1 21 4 = m.1 21 4 := k3.trans c7
      have j23 : ∀ j s, 2 ≤ j → j ≤ 4 → s < 8 → (uI (uI (uI m3 3 3 (nI sd)) 3 4 (nI ar)) 3 5 (m1.1 15 3)).1 (21 + j) s = if s < fr ∨ (wp = false ∧ sd ≤ s) then m.1 (21 + j) s else 0 := fun j s a1 a2 hs => (u_ne (by omega)).trans ((u_ne (by omega)).trans ((u_ne (by omega)).trans ((k2 j s a1 a2 hs).trans ((u_ne (by omega)).trans (c10 j s a1 a2 hs)))))
      generalize uI (uI (uI m3 3 3 (nI sd)) 3 4 (nI ar)) 3 5 (m1.1 15 3) = m4 at w4 f4 e157 e154 j33 j34 j35 j11 j2 j22 j21 j23 ⊢
      rw [e157]
      refine ⟨fun hw => ?_, fun hw => ?_⟩
      · have hwp : wp = false := by
          cases wp with
          | false => rfl
          | true => exact absurd hw (by decide)
        subst hwp
        refine e_101 (d := d + 4) (w4.t rfl (by decide) (by decide)) ⟨((w4.t rfl (by decide) (by decide)).n rfl).n rfl, ((((Fx.rf (S := RS [0, 3, 4, 7, 8, 13, 41, 42, 44, 53])).tr f4 (RS_sub rfl)).i rfl).i rfl).i rfl, j2, fun q hq' => (by cases hq'), fun st' dg' ln' sd' ar' fr' wp' il' sk' hq' => ?_⟩
        cases hq'
        refine ⟨congrArg (fun z => some (Value.int z)) e154, V0, j33, j34, j11, rfl, fun k hk => ?_, ⟨f4.at (a := 0) (k := 11) (by decide), f4.at (a := 0) (k := 15) (by decide), fun b k h1 h2 => ?_⟩, fun hz s hs => (congrArg (fun z => bt z s) j35).trans (c8 hz s hs), fun k hk => j22 k hk, j21, fun j s a1 a2 hs => ?_⟩
        · have hk2 : k = 0 ∨ k = 1 := by omega
          rcases hk2 with rfl | rfl <;> rfl
        · refine (u_ne (by omega)).trans ((u_ne (by omega)).trans ((u_ne (by omega)).trans (f4.at ?_)))
          show ¬ (([0, 3, 4, 41, 42] : List Nat).elem (rg b k) = true)
          rw [rg_7 k h1 h2]
          decide
        · exact (u_ne (by omega)).trans ((u_ne (by omega)).trans ((u_ne (by omega)).trans (j23 j s a1 a2 hs)))
      · have hwp : wp = true := by
          cases wp with
          | true => rfl
          | false => exact absurd rfl hw
        subst hwp
        obtain ⟨P, hP, hPP⟩ := w4.r09
        have hP0 : m.2.2 0 9 = some P := (f4 0 9 (by decide)).2.2.symm.trans hP
        refine ⟨P, hP, Pl_of hPP, (e_clearP (Pl_of hPP)).to ?_⟩
        rintro _ m5 ⟨rfl, e⟩
        subst e
        refine ⟨rfl, ?_⟩
        have w5 : WT (uI (uI (uI (uI (uI m4 P 5 0) P 6 0) 0 11 0) 0 15 0) 31 1 0) := by
          rcases hPP with rfl | rfl
          · exact ((((w4.t rfl (by decide) (by decide)).t rfl (by decide) (by decide)).n rfl).t rfl (by decide) (by decide)).t rfl (by decide) (by decide)
          · exact ((((w4.t rfl (by decide) (by decide)).t rfl (by decide) (by decide)).n rfl).t rfl (by decide) (by decide)).t rfl (by decide) (by decide)
        have f5 : Fx (RS [0, 3, 4, 7, 8, 13, 41, 42, 44, 53]) m (uI (uI (uI (uI (uI m4 P 5 0) P 6 0) 0 11 0) 0 15 0) 31 1 0) := by
          have f4' := (Fx.rf (S := RS [0, 3, 4, 7, 8, 13, 41, 42, 44, 53])).tr f4 (RS_sub rfl)
          rcases hPP with rfl | rfl
          · exact ((((f4'.i rfl).i rfl).i rfl).i rfl).i rfl
          · exact ((((f4'.i rfl).i rfl).i rfl).i rfl).i rfl
        have e154' : (uI (uI (uI (uI (uI m4 P 5 0) P 6 0) 0 11 0) 0 15 0) 31 1 0).1 15 4 = nI ln := by
          rcases hPP with rfl | rfl <;> exact e154
        refine e_101 (d := d + 4) w5 ⟨(w5.n rfl).n rfl, (f5.i rfl).i rfl, fun k => ?_, fun q hq' => (by cases hq'), fun st' dg' ln' sd' ar' fr' wp' il' sk' hq' => ?_⟩
        · rcases hPP with rfl | rfl <;> exact j2 k
        · cases hq'
          refine ⟨congrArg (fun z => some (Value.int z)) e154', V0, ?_⟩
          have hP2 : ∀ P', m.2.2 0 9 = some P' → P' = P := fun P' h => by rw [hP0] at h; cases h; rfl
          have hb : P < 146 ∧ 133 < P := by omega
          refine ⟨?_, ?_, ?_, rfl, fun k hk => ?_, ⟨rfl, rfl, fun P' h => ?_⟩, fun hz s hs => ?_, fun k hk => ?_, ?_, fun j s a1 a2 hs => ?_⟩
          · exact (u_ne (by omega)).trans ((u_ne (by omega)).trans ((u_ne (by omega)).trans ((u_ne (by omega)).trans ((u_ne (by omega)).trans ((u_ne (by omega)).trans ((u_ne (by omega)).trans j33))))))
          · exact (u_ne (by omega)).trans ((u_ne (by omega)).trans ((u_ne (by omega)).trans ((u_ne (by omega)).trans ((u_ne (by omega)).trans ((u_ne (by omega)).trans ((u_ne (by omega)).trans j34))))))
          · exact (u_ne (by omega)).trans ((u_ne (by omega)).trans ((u_ne (by omega)).trans ((u_ne (by omega)).trans ((u_ne (by omega)).trans ((u_ne (by omega)).trans ((u_ne (by omega)).trans j11))))))
          · have hk2 : k = 0 ∨ k = 1 := by omega
            rcases hk2 with rfl | rfl <;> rfl
          · obtain rfl := hP2 P' h
            rcases hPP with rfl | rfl <;> exact ⟨rfl, rfl⟩
          · have e35 : (uI (uI (uI (uI (uI (uI (uI m4 P 5 0) P 6 0) 0 11 0) 0 15 0) 31 1 0) 173 4 0) 180 4 0).1 3 5 = m1.1 15 3 := (u_ne (by omega)).trans ((u_ne (by omega)).trans ((u_ne (by omega)).trans ((u_ne (by omega)).trans ((u_ne (by omega)).trans ((u_ne (by omega)).trans ((u_ne (by omega)).trans j35))))))
            rw [e35]
            exact c8 hz s hs
          · exact (u_ne (by omega)).trans ((u_ne (by omega)).trans ((u_ne (by omega)).trans ((u_ne (by omega)).trans ((u_ne (by omega)).trans ((u_ne (by omega)).trans ((u_ne (by omega)).trans (j22 k hk)))))))
          · exact (u_ne (by omega)).trans ((u_ne (by omega)).trans ((u_ne (by omega)).trans ((u_ne (by omega)).trans ((u_ne (by omega)).trans ((u_ne (by omega)).trans ((u_ne (by omega)).trans j21))))))
          · exact (u_ne (by omega)).trans ((u_ne (by omega)).trans ((u_ne (by omega)).trans ((u_ne (by omega)).trans ((u_ne (by omega)).trans ((u_ne (by omega)).trans ((u_ne (by omega)).trans (j23 j s a1 a2 hs)))))))
  · rw [ht] at c
    exact absurd ((nI_eq (a := t) (b := 0) (by omega) (by decide)).mp c) ht0
end LCL
