/-! WINS, HOPES: whether there is an answer -/
def wnOK (n R : Nat) (x1 x2 x3 : Int32) : Prop := (0 ≤ x1.toInt ∧ x1.toInt < n) ∧ (1 ≤ x2.toInt ∧ x2.toInt ≤ 6) ∧ (0 ≤ x3.toInt ∧ x3.toInt ≤ x2.toInt) ∧ R ≠ 0
def hpOK (R : Nat) (x1 : Int32) : Prop := (1 ≤ x1.toInt ∧ x1.toInt ≤ 6) ∧ R ≠ 0
set_option maxHeartbeats 4000000 in
theorem l_wins0 {ad : Nat → Nat} {d : Nat} {m0 : Wm} {Q : Option Value → Wm → Prop} (hQ : ∀ m', WT m' → Fx (RS [2, 9, 12, 14]) m0 m' → Q (some (.int 0)) m') : ∀ n : Nat, (∀ (m : Wm) (x1 x2 x3 x6 : Int32) (y4 : Int64), WT m → Fx (RS [2, 9, 12, 14]) m0 m → (0 : Int) ≤ x1.toInt → x1.toInt ≤ (7 : Int) → (1 : Int) ≤ x2.toInt → x2.toInt ≤ (6 : Int) → (0 : Int) ≤ x6.toInt → x6.toInt ≤ (64 : Int) → 64 - x6.toInt < (n : Int) → AW ad E0 μX11_wins (d + 7) Q 49 [(0, .ref (ad 0)), (1, .int x1), (2, .int x2), (3, .int x3), (4, .long y4), (6, .int x6)] [] m) := by
  intro n
  induction n with
  | zero =>
    intros
    exfalso
    omega
  | succ n ih =>
    intro m x1 x2 x3 x6 y4 w f j1 j2 j3 j4 j5 j6 hn
    refine g_X11_wins_49  ?_
    refine ⟨?_, ?_⟩
    · intro c1
      have t2 := t_shl1 (x := x2) (by omega) (by omega)
      have k3 := z_le c1
      refine (s_X11_allChances w (by show (0 : Int) ≤ (x2).toInt; omega) (by show (x2).toInt ≤ (6 : Int); omega)).to ?_
      rintro _ m1 ⟨w_m1, g4, w2, rfl⟩
      have f_m1 : Fx (RS [2, 9, 12, 14]) m0 m1 := f.tr g4 (RS_sub rfl)
      refine ⟨w2, rfl, ?_⟩
      refine (s_X11_tellFraction w_m1).to ?_
      rintro _ m3 ⟨w_m3, g5, rfl⟩
      have f_m3 : Fx (RS [2, 9, 12, 14]) m0 m3 := f_m1.tr g5 (RS_sub rfl)
      refine ⟨rfl, ?_⟩
      exact hQ _ w_m3 f_m3
    · intro c6
      have t7 := t_shl1 (x := x2) (by omega) (by omega)
      have k8 := z_nle c6
      obtain ⟨r4, e9, q10⟩ := w.r09
      refine ⟨r4, e9, Pl_of q10, ?_⟩
      refine (s_X7_follow w q10 (by show (0 : Int) ≤ (x2).toInt; omega) (by show (x2).toInt ≤ (6 : Int); omega)).to ?_
      rintro _ m5 ⟨w_m5, g11, w6, rfl⟩
      have f_m5 : Fx (RS [2, 9, 12, 14]) m0 m5 := f.tr g11 (RS_sub rfl)
      refine ⟨w6, rfl, ?_⟩
      refine ⟨?_, ?_⟩
      · intro c12
        have t13 := ti_addc (x := x6) (y := (1 : Int32)) (c := 1) rfl (by omega)
        exact ih _ _ _ _ _ _ w_m5 f_m5 (by show (0 : Int) ≤ (x1).toInt; omega) (by show (x1).toInt ≤ (7 : Int); omega) (by show (1 : Int) ≤ (x2).toInt; omega) (by show (x2).toInt ≤ (6 : Int); omega) (by show (0 : Int) ≤ ((x6 + (1 : Int32))).toInt; omega) (by show ((x6 + (1 : Int32))).toInt ≤ (64 : Int); omega) (by show 64 - ((x6 + (1 : Int32))).toInt < _; omega)
      · intro c14
        refine ⟨?_, ?_⟩
        · exact vpi (by omega) (by omega)
        · refine ⟨?_, ?_⟩
          · intro c15
            have k16 := z_ne c15
            have t17 := ti_addc (x := x6) (y := (1 : Int32)) (c := 1) rfl (by omega)
            exact ih _ _ _ _ _ _ w_m5 f_m5 (by show (0 : Int) ≤ (x1).toInt; omega) (by show (x1).toInt ≤ (7 : Int); omega) (by show (1 : Int) ≤ (x2).toInt; omega) (by show (x2).toInt ≤ (6 : Int); omega) (by show (0 : Int) ≤ ((x6 + (1 : Int32))).toInt; omega) (by show ((x6 + (1 : Int32))).toInt ≤ (64 : Int); omega) (by show 64 - ((x6 + (1 : Int32))).toInt < _; omega)
          · intro c18
            have k19 := z_eq c18
            have t20 := ti_addc (x := x6) (y := (1 : Int32)) (c := 1) rfl (by omega)
            exact ih _ _ _ _ _ _ w_m5 f_m5 (by show (0 : Int) ≤ (x1).toInt; omega) (by show (x1).toInt ≤ (7 : Int); omega) (by show (1 : Int) ≤ (x2).toInt; omega) (by show (x2).toInt ≤ (6 : Int); omega) (by show (0 : Int) ≤ ((x6 + (1 : Int32))).toInt; omega) (by show ((x6 + (1 : Int32))).toInt ≤ (64 : Int); omega) (by show 64 - ((x6 + (1 : Int32))).toInt < _; omega)
set_option maxHeartbeats 4000000 in
theorem l_hopes0 {ad : Nat → Nat} {d : Nat} {m0 : Wm} {Q : Option Value → Wm → Prop} (hQ : ∀ m', WT m' → Fx (RS [2, 9, 12, 14]) m0 m' → Q (some (.int 0)) m') : ∀ n : Nat, (∀ (m : Wm) (x1 x4 x5 x6 : Int32) (y2 : Int64), WT m → Fx (RS [2, 9, 12, 14]) m0 m → (1 : Int) ≤ x1.toInt → x1.toInt ≤ (6 : Int) → (0 : Int) ≤ x6.toInt → x6.toInt ≤ (64 : Int) → 64 - x6.toInt < (n : Int) → AW ad E0 μX11_hopes (d + 7) Q 36 [(0, .ref (ad 0)), (1, .int x1), (2, .long y2), (4, .int x4), (5, .int x5), (6, .int x6)] [] m) := by
  intro n
  induction n with
  | zero =>
    intros
    exfalso
    omega
  | succ n ih =>
    intro m x1 x4 x5 x6 y2 w f j1 j2 j3 j4 hn
    refine g_X11_hopes_36  ?_
    refine ⟨?_, ?_⟩
    · intro c1
      have t2 := t_shl1 (x := x1) (by omega) (by omega)
      have k3 := z_le c1
      refine (s_X11_allChances w (by show (0 : Int) ≤ (x1).toInt; omega) (by show (x1).toInt ≤ (6 : Int); omega)).to ?_
      rintro _ m1 ⟨w_m1, g4, w2, rfl⟩
      have f_m1 : Fx (RS [2, 9, 12, 14]) m0 m1 := f.tr g4 (RS_sub rfl)
      refine ⟨w2, rfl, ?_⟩
      refine (s_X11_tellFraction w_m1).to ?_
      rintro _ m3 ⟨w_m3, g5, rfl⟩
      have f_m3 : Fx (RS [2, 9, 12, 14]) m0 m3 := f_m1.tr g5 (RS_sub rfl)
      refine ⟨rfl, ?_⟩
      have w6 : WT (uL m3 150 ((2 : Int32).toNatClampNeg) x4.toInt64) := w_m3.l
      have f6 : Fx (RS [2, 9, 12, 14]) m0 (uL m3 150 ((2 : Int32).toNatClampNeg) x4.toInt64) := f_m3.l rfl
      have w7 : WT (uL (uL m3 150 ((2 : Int32).toNatClampNeg) x4.toInt64) 150 ((3 : Int32).toNatClampNeg) x5.toInt64) := w6.l
      have f7 : Fx (RS [2, 9, 12, 14]) m0 (uL (uL m3 150 ((2 : Int32).toNatClampNeg) x4.toInt64) 150 ((3 : Int32).toNatClampNeg) x5.toInt64) := f6.l rfl
      have w8 : WT (uI (uL (uL m3 150 ((2 : Int32).toNatClampNeg) x4.toInt64) 150 ((3 : Int32).toNatClampNeg) x5.toInt64) 0 18 (4 : Int32)) := w7.t rfl (by show (0 : Int) ≤ (4 : Int); omega) (by show (4 : Int) ≤ 10; omega)
      have f8 : Fx (RS [2, 9, 12, 14]) m0 (uI (uL (uL m3 150 ((2 : Int32).toNatClampNeg) x4.toInt64) 150 ((3 : Int32).toNatClampNeg) x5.toInt64) 0 18 (4 : Int32)) := f7.i rfl
      exact hQ _ w8 f8
    · intro c9
      have t10 := t_shl1 (x := x1) (by omega) (by omega)
      have k11 := z_nle c9
      obtain ⟨r4, e12, q13⟩ := w.r09
      refine ⟨r4, e12, Pl_of q13, ?_⟩
      refine (s_X7_follow w q13 (by show (0 : Int) ≤ (x1).toInt; omega) (by show (x1).toInt ≤ (6 : Int); omega)).to ?_
      rintro _ m5 ⟨w_m5, g14, w6, rfl⟩
      have f_m5 : Fx (RS [2, 9, 12, 14]) m0 m5 := f.tr g14 (RS_sub rfl)
      refine ⟨w6, rfl, ?_⟩
      refine ⟨?_, ?_⟩
      · intro c15
        have t16 := ti_addc (x := x6) (y := (1 : Int32)) (c := 1) rfl (by omega)
        exact ih _ _ _ _ _ _ w_m5 f_m5 (by show (1 : Int) ≤ (x1).toInt; omega) (by show (x1).toInt ≤ (6 : Int); omega) (by show (0 : Int) ≤ ((x6 + (1 : Int32))).toInt; omega) (by show ((x6 + (1 : Int32))).toInt ≤ (64 : Int); omega) (by show 64 - ((x6 + (1 : Int32))).toInt < _; omega)
      · intro c17
        refine (s_X1_total w_m5 SS_167).to ?_
        rintro _ m7 ⟨w_m7, g18, v8, rfl⟩
        have f_m7 : Fx (RS [2, 9, 12, 14]) m0 m7 := f_m5.tr g18 (RS_sub rfl)
        refine ⟨v8, rfl, ?_⟩
        have t19 := ti_addc (x := x6) (y := (1 : Int32)) (c := 1) rfl (by omega)
        exact ih _ _ _ _ _ _ w_m7 f_m7 (by show (1 : Int) ≤ (x1).toInt; omega) (by show (x1).toInt ≤ (6 : Int); omega) (by show (0 : Int) ≤ ((x6 + (1 : Int32))).toInt; omega) (by show ((x6 + (1 : Int32))).toInt ≤ (64 : Int); omega) (by show 64 - ((x6 + (1 : Int32))).toInt < _; omega)
section WHC
variable {ad : Nat → Nat} {d c P n R : Nat} {m : Wm} {K0 K0' : Wm → Prop}
theorem e_winsC {x1 x2 x3 : Int32} (w : WT m) (hP : m.2.2 0 9 = some P) (hn : m.1 3 3 = nI n) (hn8 : n ≤ 8) (hR : m.1 P 5 = nI R) (hR12 : R ≤ 12) : Ct ad μX11_wins (d + 7) [.ref (ad 0), .int x1, .int x2, .int x3] m (fun r m' => WT m' ∧ Fx (RS [2, 9, 12, 14]) m m' ∧ ((wnOK n R x1 x2 x3 ∧ r = some (.int 0)) ∨ (¬ wnOK n R x1 x2 x3 ∧ r = some (.int (-1))))) := by
  have hPP : Pl P := by
    obtain ⟨r, h1, h2⟩ := w.r09
    rw [hP] at h1
    cases h1
    exact Pl_of h2
  have no : ¬ wnOK n R x1 x2 x3 → WT m ∧ Fx (RS [2, 9, 12, 14]) m m ∧ ((wnOK n R x1 x2 x3 ∧ some (Value.int (-1)) = some (.int 0)) ∨ (¬ wnOK n R x1 x2 x3 ∧ some (Value.int (-1)) = some (.int (-1)))) := fun h => ⟨w, Fx.rf, Or.inr ⟨h, rfl⟩⟩
  refine v_X11_wins ((e_has hn hn8).to ?_)
  rintro _ m' ⟨eq, rfl⟩
  obtain rfl := eq.symm
  by_cases h1 : 0 ≤ x1.toInt ∧ x1.toInt < n
  · refine ⟨1, by rw [if_pos h1], fun z => absurd z (by decide), fun _ => ⟨fun c => no (fun q => ?_), fun c2 => ⟨fun c => no (fun q => ?_), fun c3 => ⟨fun c => no (fun q => ?_), fun c4 => ⟨fun c => no (fun q => ?_), fun c5 => ⟨P, hP, hPP, fun c6 => ?_, fun c6 => no (fun q => ?_)⟩⟩⟩⟩⟩⟩
    · have := y_ltr (n := 1) rfl c
      have := q.2.1.1
      omega
    · have := y_ltl (n := 6) rfl c
      have := q.2.1.2
      omega
    · have := y_ltr (n := 0) rfl c
      have := q.2.2.1.1
      omega
    · have := z_lt c
      have := q.2.2.1.2
      omega
    · have k2 := y_nltr (n := 1) rfl c2
      have k3 := y_nltl (n := 6) rfl c3
      have k4 := y_nltr (n := 0) rfl c4
      have k5 := z_nlt c5
      have k6 : R ≠ 0 := fun z => c6 (by rw [hR, z]; rfl)
      exact l_wins0 (m0 := m) (fun m2 w2 f2 => ⟨w2, f2, Or.inl ⟨⟨h1, ⟨k2, k3⟩, ⟨k4, k5⟩, k6⟩, rfl⟩⟩) 1000000 m x1 x2 x3 _ _ w Fx.rf h1.1 (by omega) k2 k3 (by decide) (by decide) (by decide)
    · rw [hR] at c6
      have h := congrArg Int32.toInt c6
      rw [nI_toInt (by omega)] at h
      have z0 : (0 : Int32).toInt = 0 := rfl
      have := q.2.2.2
      omega
  · exact ⟨0, by rw [if_neg h1], fun _ => no (fun q => h1 q.1), fun z => absurd rfl z⟩
theorem e_hopesC {x1 : Int32} (w : WT m) (hP : m.2.2 0 9 = some P) (hR : m.1 P 5 = nI R) (hR12 : R ≤ 12) : Ct ad μX11_hopes (d + 7) [.ref (ad 0), .int x1] m (fun r m' => WT m' ∧ Fx (RS [2, 9, 12, 14]) m m' ∧ ((hpOK R x1 ∧ r = some (.int 0)) ∨ (¬ hpOK R x1 ∧ r = some (.int (-1))))) := by
  have hPP : Pl P := by
    obtain ⟨r, h1, h2⟩ := w.r09
    rw [hP] at h1
    cases h1
    exact Pl_of h2
  have no : ¬ hpOK R x1 → WT m ∧ Fx (RS [2, 9, 12, 14]) m m ∧ ((hpOK R x1 ∧ some (Value.int (-1)) = some (.int 0)) ∨ (¬ hpOK R x1 ∧ some (Value.int (-1)) = some (.int (-1)))) := fun h => ⟨w, Fx.rf, Or.inr ⟨h, rfl⟩⟩
  refine v_X11_hopes ⟨fun c => no (fun q => ?_), fun c2 => ⟨fun c => no (fun q => ?_), fun c3 => ⟨P, hP, hPP, fun c6 => ?_, fun c6 => no (fun q => ?_)⟩⟩⟩
  · have := y_ltr (n := 1) rfl c
    have := q.1.1
    omega
  · have := y_ltl (n := 6) rfl c
    have := q.1.2
    omega
  · have k2 := y_nltr (n := 1) rfl c2
    have k3 := y_nltl (n := 6) rfl c3
    have k6 : R ≠ 0 := fun z => c6 (by rw [hR, z]; rfl)
    exact l_hopes0 (m0 := m) (fun m2 w2 f2 => ⟨w2, f2, Or.inl ⟨⟨⟨k2, k3⟩, k6⟩, rfl⟩⟩) 1000000 m x1 _ _ _ _ w Fx.rf k2 k3 (by decide) (by decide) (by decide)
  · rw [hR] at c6
    have h := congrArg Int32.toInt c6
    rw [nI_toInt (by omega)] at h
    have z0 : (0 : Int32).toInt = 0 := rfl
    have := q.2
    omega
theorem ob_wins (hU : TR [2, 9, 12, 14] [20, 22, 24, 26, 28, 36, 37, 49] K0 K0') (c : Nat) (x1 x2 x3 : Int32) : Both ad d μX11_wins μX12_wins [.int x1, .int x2, .int x3] (InvK (KX K0 c)) (InvK (KX K0' (c + 1))) := fun m I => by
  obtain ⟨w, I1, kz, ⟨P, Q, hR, X⟩, lw, kp⟩ := I
  have X0 := X
  obtain ⟨n, R, g, sn, hn, n8, a3, a4, a5, a6, a7, -⟩ := X0
  have I0 := I1
  obtain ⟨h1, h2, h3, h4, h5⟩ := I0
  have t1 : (m.1 187 1).toInt = n := by rw [← h3, hn, nI_toInt (by omega)]
  have t11 : (m.1 187 11).toInt = R := by rw [a4, nI_toInt (by omega)]
  have z0 : (0 : Int32).toInt = 0 := rfl
  have z1 : (-1 : Int32).toInt = -1 := rfl
  refine (e_winsC (d := d + 293) w hR.1 hn n8 a3 a7).to ?_
  rintro r m1 ⟨w1, f1, h⟩
  have g1 : (m1.1 187 1).toInt = n := by rw [f1.at (a := 187) (k := 1) (nRS (ρ := 23) rfl rfl)]; exact t1
  have g11 : (m1.1 187 11).toInt = R := by rw [f1.at (a := 187) (k := 11) (nRS (ρ := 25) rfl rfl)]; exact t11
  unfold wnOK at h
  rcases h with ⟨hC, rfl⟩ | ⟨hC, rfl⟩
  · refine ⟨_, rfl, (s_X12_wins (d := d + 109) w1 (h1.fx f1 rfl)).to ?_⟩
    rintro _ m2 ⟨w2, f2, v2, rfl, p2⟩
    exact ⟨congrArg (fun z => some (Value.int z)) ((fa_eq _ _).mpr (by omega)), w2, I1.f2 f1 f2 rfl rfl, hU.use f1 f2 kz rfl rfl, KB.fd c f1 f2 ⟨⟨P, Q, hR, X⟩, lw, kp⟩ rfl rfl⟩
  · refine ⟨_, rfl, (s_X12_wins (d := d + 109) w1 (h1.fx f1 rfl)).to ?_⟩
    rintro _ m2 ⟨w2, f2, v2, rfl, p2⟩
    exact ⟨congrArg (fun z => some (Value.int z)) ((fa_eq _ _).mpr (by omega)), w2, I1.f2 f1 f2 rfl rfl, hU.use f1 f2 kz rfl rfl, KB.fd c f1 f2 ⟨⟨P, Q, hR, X⟩, lw, kp⟩ rfl rfl⟩
theorem ob_hopes (hU : TR [2, 9, 12, 14] [20, 22, 24, 26, 28, 36, 37, 49] K0 K0') (c : Nat) (x1 : Int32) : Both ad d μX11_hopes μX12_hopes [.int x1] (InvK (KX K0 c)) (InvK (KX K0' (c + 1))) := fun m I => by
  obtain ⟨w, I1, kz, ⟨P, Q, hR, X⟩, lw, kp⟩ := I
  have X0 := X
  obtain ⟨n, R, g, sn, hn, n8, a3, a4, a5, a6, a7, -⟩ := X0
  have I0 := I1
  obtain ⟨h1, h2, h3, h4, h5⟩ := I0
  have t11 : (m.1 187 11).toInt = R := by rw [a4, nI_toInt (by omega)]
  have z0 : (0 : Int32).toInt = 0 := rfl
  have z1 : (-1 : Int32).toInt = -1 := rfl
  refine (e_hopesC (d := d + 293) w hR.1 a3 a7).to ?_
  rintro r m1 ⟨w1, f1, h⟩
  have g11 : (m1.1 187 11).toInt = R := by rw [f1.at (a := 187) (k := 11) (nRS (ρ := 25) rfl rfl)]; exact t11
  unfold hpOK at h
  rcases h with ⟨hC, rfl⟩ | ⟨hC, rfl⟩
  · refine ⟨_, rfl, (s_X12_hopes (d := d + 109) w1 (h1.fx f1 rfl)).to ?_⟩
    rintro _ m2 ⟨w2, f2, v2, rfl, p2⟩
    exact ⟨congrArg (fun z => some (Value.int z)) ((fa_eq _ _).mpr (by omega)), w2, I1.f2 f1 f2 rfl rfl, hU.use f1 f2 kz rfl rfl, KB.fd c f1 f2 ⟨⟨P, Q, hR, X⟩, lw, kp⟩ rfl rfl⟩
  · refine ⟨_, rfl, (s_X12_hopes (d := d + 109) w1 (h1.fx f1 rfl)).to ?_⟩
    rintro _ m2 ⟨w2, f2, v2, rfl, p2⟩
    exact ⟨congrArg (fun z => some (Value.int z)) ((fa_eq _ _).mpr (by omega)), w2, I1.f2 f1 f2 rfl rfl, hU.use f1 f2 kz rfl rfl, KB.fd c f1 f2 ⟨⟨P, Q, hR, X⟩, lw, kp⟩ rfl rfl⟩
end WHC
