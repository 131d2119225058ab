/-! THE LAW'S SETTINGS -/
def lwT (a b : Int32) : Prop := (a = 0 ∧ 0 ≤ b.toInt ∧ b.toInt ≤ 3) ∨ (a = 1 ∧ 1 ≤ b.toInt ∧ b.toInt ≤ 3) ∨ (a = 2 ∧ 0 ≤ b.toInt ∧ b.toInt ≤ 2) ∨ (a = 3 ∧ 0 ≤ b.toInt ∧ b.toInt ≤ 99) ∨ (a = 4 ∧ 0 ≤ b.toInt ∧ b.toInt ≤ 50)
theorem lwT_0 {b : Int32} : lwT 0 b ↔ (0 ≤ b.toInt ∧ b.toInt ≤ 3) := by
  constructor
  · rintro (⟨-, h0, h1⟩ | ⟨q, -⟩ | ⟨q, -⟩ | ⟨q, -⟩ | ⟨q, -⟩)
    · exact ⟨h0, h1⟩
    · exact absurd q (by decide)
    · exact absurd q (by decide)
    · exact absurd q (by decide)
    · exact absurd q (by decide)
  · intro h; exact Or.inl ⟨rfl, h⟩
theorem lwT_1 {b : Int32} : lwT 1 b ↔ (1 ≤ b.toInt ∧ b.toInt ≤ 3) := by
  constructor
  · rintro (⟨q, -⟩ | ⟨-, h0, h1⟩ | ⟨q, -⟩ | ⟨q, -⟩ | ⟨q, -⟩)
    · exact absurd q (by decide)
    · exact ⟨h0, h1⟩
    · exact absurd q (by decide)
    · exact absurd q (by decide)
    · exact absurd q (by decide)
  · intro h; exact Or.inr (Or.inl ⟨rfl, h⟩)
theorem lwT_2 {b : Int32} : lwT 2 b ↔ (0 ≤ b.toInt ∧ b.toInt ≤ 2) := by
  constructor
  · rintro (⟨q, -⟩ | ⟨q, -⟩ | ⟨-, h0, h1⟩ | ⟨q, -⟩ | ⟨q, -⟩)
    · exact absurd q (by decide)
    · exact absurd q (by decide)
    · exact ⟨h0, h1⟩
    · exact absurd q (by decide)
    · exact absurd q (by decide)
  · intro h; exact Or.inr (Or.inr (Or.inl ⟨rfl, h⟩))
theorem lwT_3 {b : Int32} : lwT 3 b ↔ (0 ≤ b.toInt ∧ b.toInt ≤ 99) := by
  constructor
  · rintro (⟨q, -⟩ | ⟨q, -⟩ | ⟨q, -⟩ | ⟨-, h0, h1⟩ | ⟨q, -⟩)
    · exact absurd q (by decide)
    · exact absurd q (by decide)
    · exact absurd q (by decide)
    · exact ⟨h0, h1⟩
    · exact absurd q (by decide)
  · intro h; exact Or.inr (Or.inr (Or.inr (Or.inl ⟨rfl, h⟩)))
theorem lwT_4 {b : Int32} : lwT 4 b ↔ (0 ≤ b.toInt ∧ b.toInt ≤ 50) := by
  constructor
  · rintro (⟨q, -⟩ | ⟨q, -⟩ | ⟨q, -⟩ | ⟨q, -⟩ | ⟨-, h0, h1⟩)
    · exact absurd q (by decide)
    · exact absurd q (by decide)
    · exact absurd q (by decide)
    · exact absurd q (by decide)
    · exact ⟨h0, h1⟩
  · intro h; exact Or.inr (Or.inr (Or.inr (Or.inr (⟨rfl, h⟩))))
theorem lwT_n {a b : Int32} (h : ¬ (0 ≤ a.toInt ∧ a.toInt ≤ 4)) : ¬ lwT a b := by
  rintro (⟨rfl, -⟩ | ⟨rfl, -⟩ | ⟨rfl, -⟩ | ⟨rfl, -⟩ | ⟨rfl, -⟩) <;> exact h (by decide)
section LAW
variable {ad : Nat → Nat} {d : Nat} {m m0 : Wm} {K0 K0' : Wm → Prop}
def lwC (m : Wm) (a b : Int32) (r : Option Value) (m' : Wm) : Prop := WT m' ∧ ((lwT a b ∧ ∃ k, k < 5 ∧ a = nI k ∧ r = some (.int (m.1 4 k)) ∧ m' = uI m 4 k b) ∨ (¬ lwT a b ∧ r = some (.int (-1)) ∧ m' = m))
theorem e_lawC {a b : Int32} (w : WT m) : Ct ad μX11_law (d + 1) [.ref (ad 0), .int a, .int b] m (lwC m a b) := by
  have ok : ∀ k, k < 5 → a = nI k → lwT a b → ∃ v2 : Int32, some (Value.int 1) = some (.int v2) ∧ ((¬ v2 = 0 → (vp_in a 5 ∧ (vp_in a 5 ∧ lwC m a b (some (.int (m.1 4 a.toNatClampNeg))) (uI m 4 a.toNatClampNeg b)))) ∧ (v2 = 0 → lwC m a b (some (.int (-1))) m)) := fun k hk ha hl => by
    refine ⟨1, rfl, fun _ => ?_, fun z => absurd z (by decide)⟩
    rw [ha, nI_clamp (by omega)]
    exact ⟨nat_in hk (by decide), nat_in hk (by decide), w.n rfl, Or.inl ⟨ha ▸ hl, k, hk, rfl, rfl, rfl⟩⟩
  have no : ¬ lwT a b → ∃ v2 : Int32, some (Value.int 0) = some (.int v2) ∧ ((¬ v2 = 0 → (vp_in a 5 ∧ (vp_in a 5 ∧ lwC m a b (some (.int (m.1 4 a.toNatClampNeg))) (uI m 4 a.toNatClampNeg b)))) ∧ (v2 = 0 → lwC m a b (some (.int (-1))) m)) := fun hl => ⟨0, rfl, fun z => absurd rfl z, fun _ => ⟨w, Or.inr ⟨hl, rfl, rfl⟩⟩⟩
  exact v_X11_law (v_X1_allows ⟨fun h => by
    rw [h] at ok no ⊢
    exact ⟨fun c => no (fun q => by have := y_ltr (n := 0) rfl c; have := lwT_0.mp q; omega), fun c => ⟨fun c2 => no (fun q => by have := y_ltl (n := 3) rfl c2; have := lwT_0.mp q; omega), fun c2 => ok 0 (by decide) rfl (lwT_0.mpr ⟨by have := y_nltr (n := 0) rfl c; omega, by have := y_nltl (n := 3) rfl c2; omega⟩)⟩⟩,
    fun h => by
    rw [h] at ok no ⊢
    exact ⟨fun c => no (fun q => by have := y_ltr (n := 1) rfl c; have := lwT_1.mp q; omega), fun c => ⟨fun c2 => no (fun q => by have := y_ltl (n := 3) rfl c2; have := lwT_1.mp q; omega), fun c2 => ok 1 (by decide) rfl (lwT_1.mpr ⟨by have := y_nltr (n := 1) rfl c; omega, by have := y_nltl (n := 3) rfl c2; omega⟩)⟩⟩,
    fun h => by
    rw [h] at ok no ⊢
    exact ⟨fun c => no (fun q => by have := y_ltr (n := 0) rfl c; have := lwT_2.mp q; omega), fun c => ⟨fun c2 => no (fun q => by have := y_ltl (n := 2) rfl c2; have := lwT_2.mp q; omega), fun c2 => ok 2 (by decide) rfl (lwT_2.mpr ⟨by have := y_nltr (n := 0) rfl c; omega, by have := y_nltl (n := 2) rfl c2; omega⟩)⟩⟩,
    fun h => by
    rw [h] at ok no ⊢
    exact ⟨fun c => no (fun q => by have := y_ltr (n := 0) rfl c; have := lwT_3.mp q; omega), fun c => ⟨fun c2 => no (fun q => by have := y_ltl (n := 99) rfl c2; have := lwT_3.mp q; omega), fun c2 => ok 3 (by decide) rfl (lwT_3.mpr ⟨by have := y_nltr (n := 0) rfl c; omega, by have := y_nltl (n := 99) rfl c2; omega⟩)⟩⟩,
    fun h => by
    rw [h] at ok no ⊢
    exact ⟨fun c => no (fun q => by have := y_ltr (n := 0) rfl c; have := lwT_4.mp q; omega), fun c => ⟨fun c2 => no (fun q => by have := y_ltl (n := 50) rfl c2; have := lwT_4.mp q; omega), fun c2 => ok 4 (by decide) rfl (lwT_4.mpr ⟨by have := y_nltr (n := 0) rfl c; omega, by have := y_nltl (n := 50) rfl c2; omega⟩)⟩⟩,
    fun n0 n1 n2 n3 n4 => no (fun q => by
      rcases q with ⟨q, -⟩ | ⟨q, -⟩ | ⟨q, -⟩ | ⟨q, -⟩ | ⟨q, -⟩
      · exact n0 q
      · exact n1 q
      · exact n2 q
      · exact n3 q
      · exact n4 q)⟩)
def lwM (m : Wm) (a b : Int32) (r : Option Value) (m' : Wm) : Prop := WT m' ∧ Fx (RS [20, 47]) m m' ∧ ((lwT a b ∧ ∃ k, k < 5 ∧ a = nI k ∧ r = some (.int (m.1 193 k)) ∧ ∀ j, m'.1 193 j = if j = k then b else m.1 193 j) ∨ (¬ lwT a b ∧ r = some (.int (-1)) ∧ ∀ j, m'.1 193 j = m.1 193 j))
theorem e_lawM {a b : Int32} (w : WT m) : Ct ad μX12_law (d + 2) [.ref (ad 187), .int a, .int b] m (lwM m a b) := by
  have w0 : WT (uI m 187 17 0) := w.n rfl
  have f0 : Fx (RS [20, 47]) m (uI m 187 17 0) := Fx.rf.i rfl
  have z0 : (0 : Int32).toInt = 0 := rfl
  have z4 : (4 : Int32).toInt = 4 := rfl
  have H : ∀ (lo hi : Int32), (0 ≤ a.toInt ∧ a.toInt ≤ 4 → (lwT a b ↔ lo.toInt ≤ b.toInt ∧ b.toInt ≤ hi.toInt)) → AW ad E0 μX12_law (d + 1 + 1) (lwM m a b) 50 [(0, .ref (ad 187)), (1, .int a), (2, .int b), (3, .int lo)] [.int hi] (uI m 187 17 0) := by
    intro lo hi hl
    refine g_X12_law_50 ((in_i (lo := 0) (hi := 4) rfl rfl).to ?_)
    rintro _ m' ⟨eq, rfl⟩
    obtain rfl := eq.symm
    by_cases ha : (0 : Int32) ≤ a ∧ a ≤ 4
    · have a0 := z_le ha.1
      have a4 := z_le ha.2
      have hl2 := hl ⟨by omega, by omega⟩
      refine ⟨1, by rw [if_pos ha], fun z => absurd z (by decide), fun _ => (in_i (lo := lo) (hi := hi) rfl rfl).to ?_⟩
      rintro _ m' ⟨eq, rfl⟩
      obtain rfl := eq.symm
      by_cases hb : lo ≤ b ∧ b ≤ hi
      · obtain ⟨k, hk, hak⟩ := zn_of (x := a) (by omega)
        have ta : a.toInt = k := by rw [hak, nI_toInt hk]
        have hk5 : k < 5 := by omega
        have hT : lwT a b := hl2.mpr ⟨z_le hb.1, z_le hb.2⟩
        refine ⟨1, by rw [if_pos hb], fun _ => ?_, fun z => absurd z (by decide)⟩
        rw [hak, nI_clamp (by omega)]
        refine ⟨nat_in hk5 (by decide), nat_in hk5 (by decide), w0.n rfl, f0.i rfl, Or.inl ⟨hak ▸ hT, k, hk5, rfl, rfl, fun j => ?_⟩⟩
        by_cases hj : j = k
        · rw [hj, if_pos rfl]; exact u_eq
        · rw [if_neg hj]; exact u_ne (fun q => hj q.2)
      · exact ⟨0, by rw [if_neg hb], fun z => absurd rfl z, fun _ => ⟨w0, f0, Or.inr ⟨fun q => hb ⟨(fa_le _ _).mpr (hl2.mp q).1, (fa_le _ _).mpr (hl2.mp q).2⟩, rfl, fun _ => rfl⟩⟩⟩
    · refine ⟨0, by rw [if_neg ha], fun _ => ⟨w0, f0, Or.inr ⟨lwT_n (fun q => ha ⟨(fa_le _ _).mpr (by omega), (fa_le _ _).mpr (by omega)⟩), rfl, fun _ => rfl⟩⟩, fun z => absurd rfl z⟩
  refine v_X12_law ⟨fun c1 => g_X12_law_15 ⟨fun h => H 0 3 (fun _ => by rw [h]; exact lwT_0), fun n0 => ⟨fun n1 => ⟨fun n2 => ⟨fun n3 => H 0 50 (fun q => ?_), fun h => H 0 99 (fun _ => by rw [h]; exact lwT_3)⟩, fun h => H 0 2 (fun _ => by rw [h]; exact lwT_2)⟩, fun h => absurd h c1⟩⟩, fun c1 => g_X12_law_15 ⟨fun h => ?_, fun n0 => ⟨fun n1 => absurd c1 n1, fun h => H 1 3 (fun _ => by rw [h]; exact lwT_1)⟩⟩⟩
  · have h4 : a = 4 := by
      have q0 := y_ner (n := 0) rfl n0
      have q1 := y_ner (n := 1) rfl n1
      have q2 := y_ner (n := 2) rfl n2
      have q3 := y_ner (n := 3) rfl n3
      exact (fa_eq _ _).mpr (by omega)
    rw [h4]
    exact lwT_4
  · rw [c1] at h
    exact absurd h (by decide)
theorem ob_law (hU : TR [43] [20, 47] K0 K0') (c : Nat) (a b : Int32) : Both ad d μX11_law μX12_law [.int a, .int b] (InvK (KX K0 c)) (InvK (KX K0' (c + 1))) := fun m I => by
  obtain ⟨w, I1, kz, pl, lw, kp⟩ := I
  refine (e_lawC (d := d + 299) w).to ?_
  rintro r m1 ⟨w1, ⟨hT, k, hk, hak, rfl, e⟩ | ⟨hT, rfl, e⟩⟩
  · have f1 : Fx (RS [43]) m m1 := by rw [e]; exact Fx.rf.i rfl
    refine ⟨_, rfl, (e_lawM (d := d + 298) w1).to ?_⟩
    rintro r m2 ⟨w2, f2, ⟨-, k', hk', hak', rfl, h⟩ | ⟨hT2, -⟩⟩
    · have hkk : k' = k := ((nI_eq (a := k) (b := k') (by omega) (by omega)).mp (hak.symm.trans hak')).symm
      subst hkk
      have e193 : ∀ j, m1.1 193 j = m.1 193 j := fun j => f1.at (nRS (ρ := 47) rfl rfl)
      refine ⟨by rw [e193 k', lw k' hk], w2, I1.f2 f1 f2 rfl rfl, hU.use f1 f2 kz rfl rfl, (pl.fx f1 rfl rfl rfl rfl rfl).fx f2 rfl rfl rfl rfl rfl, fun j hj => ?_, ((kp.fx f1 rfl rfl rfl).fx f2 rfl rfl rfl).up⟩
      rw [f2.at (a := 4) (k := j) (nRS (ρ := 43) rfl rfl), h j, e193 j, e]
      by_cases hj2 : j = k'
      · rw [hj2, if_pos rfl]; exact u_eq
      · rw [if_neg hj2]; exact (u_ne (fun q => hj2 q.2)).trans (lw j hj)
    · exact absurd hT hT2
  · have F1 : Fx (RS []) m m1 := by rw [e]; exact Fx.rf
    refine ⟨_, rfl, (e_lawM (d := d + 298) w1).to ?_⟩
    rintro r m2 ⟨w2, f2, ⟨hT2, -⟩ | ⟨-, rfl, h⟩⟩
    · exact absurd hT2 hT
    · refine ⟨rfl, w2, I1.f2 F1 f2 rfl rfl, hU.use F1 f2 kz rfl rfl, (pl.fx F1 rfl rfl rfl rfl rfl).fx f2 rfl rfl rfl rfl rfl, fun j hj => ?_, ((kp.fx F1 rfl rfl rfl).fx f2 rfl rfl rfl).up⟩
      rw [f2.at (a := 4) (k := j) (nRS (ρ := 43) rfl rfl), h j, e]
      exact lw j hj
/-- laws() gives back the setting that it found -/
theorem lawsC_l : ∀ (j : Nat) (m : Wm) (x1 x2 x3 : Int32) (q : Nat), q + j = 4 → WT m → Fx (RS [2, 5, 9, 14, 43]) m0 m → 0 ≤ x1.toInt → x1.toInt ≤ 50 → 0 ≤ x3.toInt → x3.toInt ≤ 3 → (∀ k, k ≠ 0 → m.1 4 k = m0.1 4 k) → x2 = m0.1 4 0 →
    AW ad E0 μX11_laws (d + 6) (fun r m' => WT m' ∧ Fx (RS [2, 5, 9, 14, 43]) m0 m' ∧ (∃ v : Int32, r = some (.int v)) ∧ ∀ k, m'.1 4 k = m0.1 4 k) 37 [(0, .ref (ad 0)), (1, .int x1), (2, .int x2), (3, .int x3), (4, .int (nI q))] [] m := by
  have e00 : (0 : Int32).toNatClampNeg = 0 := rfl
  intro j
  induction j with
  | zero =>
    intro m x1 x2 x3 q hq w f a0 a1 b0 b1 hk hx
    obtain rfl : q = 4 := hq
    refine g_X11_laws_37 ⟨fun _ => ⟨(w.n rfl).t rfl (by decide) (by decide), (f.i rfl).i rfl, ⟨_, rfl⟩, fun k => ?_⟩, fun c => absurd (by decide) c⟩
    rw [e00]
    refine (u_ne (by omega)).trans ?_
    by_cases h : k = 0
    · rw [h, hx]; exact u_eq
    · exact (u_ne (fun q => h q.2)).trans (hk k h)
  | succ j ih =>
    intro m x1 x2 x3 q hq w f a0 a1 b0 b1 hk hx
    have tq : (nI q).toInt = q := nI_toInt (by omega)
    refine g_X11_laws_37 ⟨fun c => absurd ((le_l 4 4 rfl (by decide) (by omega)).mp c) (by omega), fun _ => ?_⟩
    rw [e00]
    have w7 : WT (uI m 4 0 (nI q)) := w.n rfl
    have f7 : Fx (RS [2, 5, 9, 14, 43]) m0 (uI m 4 0 (nI q)) := f.i rfl
    refine (s_X11_playAhead w7 (by omega) (by omega)).to ?_
    rintro _ m1 ⟨w_m1, g8, rfl⟩
    refine ⟨rfl, (s_X1_total w_m1 SS_26).to ?_⟩
    rintro _ m2 ⟨w_m2, g9, v3, rfl⟩
    have f_m2 : Fx (RS [2, 5, 9, 14, 43]) m0 m2 := (f7.tr g8 (RS_sub rfl)).tr g9 (RS_sub rfl)
    have e4 : ∀ k, k ≠ 0 → m2.1 4 k = m0.1 4 k := fun k h => (g9.at (nRS (ρ := 43) rfl rfl)).trans ((g8.at (nRS (ρ := 43) rfl rfl)).trans ((u_ne (fun q => h q.2)).trans (hk k h)))
    rw [nI_1]
    exact ⟨v3, rfl, vpi (by omega) (by omega), vpi (by omega) (by omega), vpi (by omega) (by omega), fun _ => ih _ _ _ _ (q + 1) (by omega) w_m2.l (f_m2.l rfl) a0 a1 b0 b1 e4 hx, fun _ => ih _ _ _ _ (q + 1) (by omega) w_m2.l (f_m2.l rfl) a0 a1 (by omega) (by omega) e4 hx⟩
theorem e_lawsC {x1 : Int32} (w : WT m) : Ct ad μX11_laws (d + 6) [.ref (ad 0), .int x1] m (fun r m' => WT m' ∧ Fx (RS [2, 5, 9, 14, 43]) m m' ∧ (∃ v : Int32, r = some (.int v)) ∧ ∀ k, m'.1 4 k = m.1 4 k) := by
  have nn : ∀ v : Int32, WT m ∧ Fx (RS [2, 5, 9, 14, 43]) m m ∧ (∃ v' : Int32, some (Value.int v) = some (.int v')) ∧ ∀ k, m.1 4 k = m.1 4 k := fun v => ⟨w, Fx.rf, ⟨v, rfl⟩, fun _ => rfl⟩
  obtain ⟨r1, e9, q10⟩ := w.r09
  refine v_X11_laws ⟨fun _ => nn _, fun c => ⟨fun _ => nn _, fun c2 => ⟨r1, e9, Pl_of q10, fun _ => ?_, fun _ => nn _⟩⟩⟩
  exact lawsC_l (m0 := m) 4 m _ _ 0 0 (by decide) w Fx.rf (y_nltr (n := 0) rfl c) (y_nltl (n := 50) rfl c2) (by decide) (by decide) (fun _ _ => rfl) rfl
theorem lawsM_l : ∀ (j : Nat) (m : Wm) (x1 x2 x3 x4 : Int32) (q : Nat), q + j = 4 → WT m → Fx (RS [20, 22, 24, 26, 28, 29, 30, 31, 47, 49]) m0 m → 0 ≤ x1.toInt → x1.toInt ≤ 50 → 1 ≤ (m.1 187 11).toInt → (m.1 187 16).toInt = q → (∀ k, k ≠ 0 → m.1 193 k = m0.1 193 k) → x2 = m0.1 193 0 →
    AW ad E0 μX12_laws (d + 172) (fun r m' => WT m' ∧ Fx (RS [20, 22, 24, 26, 28, 29, 30, 31, 47, 49]) m0 m' ∧ (∃ v : Int32, r = some (.int v)) ∧ ∀ k, m'.1 193 k = m0.1 193 k) 55 [(0, .ref (ad 187)), (1, .int x1), (2, .int x2), (3, .int x3), (4, .int x4), (5, .int (nI q))] [] m := by
  have e00 : (0 : Int32).toNatClampNeg = 0 := rfl
  intro j
  induction j with
  | zero =>
    intro m x1 x2 x3 x4 q hq w f a0 a1 h11 h16 hk hx
    obtain rfl : q = 4 := hq
    refine g_X12_laws_55 ⟨fun _ => ⟨w.n rfl, f.i rfl, ⟨_, rfl⟩, fun k => ?_⟩, fun c => absurd (by decide) c⟩
    rw [e00]
    by_cases h : k = 0
    · rw [h, hx]; exact u_eq
    · exact (u_ne (fun q => h q.2)).trans (hk k h)
  | succ j ih =>
    intro m x1 x2 x3 x4 q hq w f a0 a1 h11 h16 hk hx
    refine g_X12_laws_55 ⟨fun c => absurd ((le_l 4 4 rfl (by decide) (by omega)).mp c) (by omega), fun _ => ?_⟩
    rw [e00]
    have w6 : WT (uI m 193 0 (nI q)) := w.n rfl
    have f6 : Fx (RS [20, 22, 24, 26, 28, 29, 30, 31, 47, 49]) m0 (uI m 193 0 (nI q)) := f.i rfl
    have r7 := w.at (a := 187) (k := 11) rfl
    refine (s_X12_goRounds w6 (by omega) (by omega) (by show 1 ≤ ((m.1 187 11)).toInt; omega)).to ?_
    rintro _ m1 ⟨w_m1, g8, rfl⟩
    refine ⟨rfl, (s_X12_sumOfAll w_m1).to ?_⟩
    rintro _ m2 ⟨w_m2, g14, v3, rfl⟩
    refine ⟨v3, rfl, (s_X12_bring_202 w_m2 (by show (0 : Int) ≤ (0 : Int); omega) (by show (0 : Int) ≤ (0 : Int); omega)).to ?_⟩
    rintro _ m4 ⟨w_m4, g20, rfl⟩
    have q16 : (m4.1 187 16).toInt = q := by
      have e1 : m4.1 187 16 = m.1 187 16 := (g20.at (by decide)).trans ((g14.at (by decide)).trans ((g8.at (by decide)).trans (u_ne (by omega))))
      rw [e1]; exact h16
    refine ⟨rfl, (s_X12_tell w_m4 (by omega)).to ?_⟩
    rintro _ m5 ⟨w_m5, g27, rfl, p28⟩
    have f_m5 : Fx (RS [20, 22, 24, 26, 28, 29, 30, 31, 47, 49]) m0 m5 := (((f6.tr g8 (RS_sub rfl)).tr g14 (RS_sub rfl)).tr g20 (RS_sub rfl)).tr g27 (RS_sub rfl)
    have q11 : 1 ≤ (m5.1 187 11).toInt := by
      have e1 : m5.1 187 11 = m.1 187 11 := (g27.at (by decide)).trans ((g20.at (by decide)).trans ((g14.at (by decide)).trans ((g8.at (by decide)).trans (u_ne (by omega)))))
      rw [e1]; exact h11
    have e4 : ∀ k, k ≠ 0 → m5.1 193 k = m0.1 193 k := fun k h => (g27.at (nRS (ρ := 47) rfl rfl)).trans ((g20.at (nRS (ρ := 47) rfl rfl)).trans ((g14.at (nRS (ρ := 47) rfl rfl)).trans ((g8.at (nRS (ρ := 47) rfl rfl)).trans ((u_ne (fun q => h q.2)).trans (hk k h)))))
    have p29 : (m5.1 187 16).toInt = (m4.1 187 16).toInt + 1 := p28
    rw [nI_1]
    exact ⟨rfl, fun _ => ih _ _ _ _ _ (q + 1) (by omega) w_m5 f_m5 a0 a1 q11 (by omega) e4 hx, fun _ => ⟨fun _ => ih _ _ _ _ _ (q + 1) (by omega) w_m5 f_m5 a0 a1 q11 (by omega) e4 hx, fun _ => ih _ _ _ _ _ (q + 1) (by omega) w_m5 f_m5 a0 a1 q11 (by omega) e4 hx⟩⟩
theorem e_lawsM {x1 : Int32} (w : WT m) : Ct ad μX12_laws (d + 172) [.ref (ad 187), .int x1] m (fun r m' => WT m' ∧ Fx (RS [20, 22, 24, 26, 28, 29, 30, 31, 47, 49]) m m' ∧ (∃ v : Int32, r = some (.int v)) ∧ ∀ k, m'.1 193 k = m.1 193 k) := by
  have w0 : WT (uI m 187 17 0) := w.n rfl
  have f0 : Fx (RS [20, 22, 24, 26, 28, 29, 30, 31, 47, 49]) m (uI m 187 17 0) := Fx.rf.i rfl
  have nn : ∀ v : Int32, WT (uI m 187 17 0) ∧ Fx (RS [20, 22, 24, 26, 28, 29, 30, 31, 47, 49]) m (uI m 187 17 0) ∧ (∃ v' : Int32, some (Value.int v) = some (.int v')) ∧ ∀ k, (uI m 187 17 0).1 193 k = m.1 193 k := fun v => ⟨w0, f0, ⟨v, rfl⟩, fun _ => rfl⟩
  have z0 : (0 : Int32).toInt = 0 := rfl
  have z50 : (50 : Int32).toInt = 50 := rfl
  refine v_X12_laws ((in_i (lo := 0) (hi := 50) rfl rfl).to ?_)
  rintro _ m' ⟨eq, rfl⟩
  obtain rfl := eq.symm
  by_cases hc : (0 : Int32) ≤ x1 ∧ x1 ≤ 50
  · have a0 := z_le hc.1
    have a1 := z_le hc.2
    refine ⟨1, by rw [if_pos hc], fun z => absurd z (by decide), fun _ => ⟨fun h11 => ?_, fun _ => nn _⟩⟩
    refine (s_X12_lay_202 w0 (by show (0 : Int) ≤ (0 : Int); omega) (by show (0 : Int) ≤ (0 : Int); omega)).to ?_
    rintro _ m3 ⟨w_m3, g19, rfl⟩
    have r11 := w0.at (a := 187) (k := 11) rfl
    have h11' := y_ner (n := 0) rfl h11
    have q11 : m3.1 187 11 = (uI m 187 17 0).1 187 11 := g19.at (by decide)
    have c193 : ∀ k, m3.1 193 k = m.1 193 k := fun k => g19.at (nRS (ρ := 47) rfl rfl)
    refine ⟨rfl, lawsM_l (m0 := m) 4 _ _ _ 0 0 0 (by decide) (w_m3.t rfl (by decide) (by decide)) ((f0.tr g19 (RS_sub rfl)).i rfl) (by omega) (by omega) ?_ rfl (fun k _ => c193 k) rfl⟩
    show 1 ≤ (m3.1 187 11).toInt
    rw [q11]
    omega
  · exact ⟨0, by rw [if_neg hc], fun _ => nn _, fun z => absurd rfl z⟩
theorem ob_laws (hU : TR [2, 5, 9, 14, 43] [20, 22, 24, 26, 28, 29, 30, 31, 47, 49] K0 K0') (c : Nat) (a : Int32) : BothW ad d μX11_laws μX12_laws [.int a] (InvK (KX K0 c)) (InvK (KX K0' (c + 1))) := fun m I => by
  obtain ⟨w, I1, kz, pl, lw, kp⟩ := I
  refine (e_lawsC (d := d + 294) w).to ?_
  rintro r m1 ⟨w1, f1, ⟨v, rfl⟩, h1⟩
  refine ⟨⟨_, rfl⟩, (e_lawsM (d := d + 128) w1).to ?_⟩
  rintro r m2 ⟨w2, f2, ⟨v2, rfl⟩, h2⟩
  refine ⟨⟨_, rfl⟩, w2, I1.f2 f1 f2 rfl rfl, hU.use f1 f2 kz rfl rfl, (pl.fx f1 rfl rfl rfl rfl rfl).fx f2 rfl rfl rfl rfl rfl, fun k hk => ?_, ((kp.fx f1 rfl rfl rfl).fx f2 rfl rfl rfl).up⟩
  rw [f2.at (a := 4) (k := k) (nRS (ρ := 43) rfl rfl), h1 k, h2 k, f1.at (a := 193) (k := k) (nRS (ρ := 47) rfl rfl)]
  exact lw k hk
end LAW
