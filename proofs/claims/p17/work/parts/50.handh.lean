/-! CHANCES OF GAMES AHEAD (model): chanceOfWins, hopeOf; a plan of no game has no round -/
section CW
variable {ad : Nat → Nat} {m : Wm}
theorem bm32 {z : Int} (h1 : -2147483648 ≤ z) (h2 : z < 2147483648) : z.bmod (2 ^ 32) = z := by
  have e : ((2 ^ 32 : Nat) : Int) = 4294967296 := rfl
  exact Int.bmod_eq_of_le_mul_two (by rw [e]; omega) (by rw [e]; omega)
theorem nI_rem {g G : Nat} (hg : g < 2147483648) (hG : G < 2147483648) (hG0 : 0 < G) : nI g - nI g / nI G * nI G = nI (g % G) := by
  have hm := Nat.mod_lt g hG0
  refine (fa_eq _ _).mpr ?_
  rw [Int32.toInt_sub, Int32.toInt_mul, Int32.toInt_div, Int.bmod_mul_bmod, Int.sub_bmod_bmod, Int.mul_comm, ← Int.tmod_def, nI_toInt hg, nI_toInt hG, nI_toInt (by omega)]
  have : (g : Int).tmod (G : Int) = ((g % G : Nat) : Int) := by
    rw [Int.tmod_eq_emod_of_nonneg (by omega)]
    rfl
  rw [this]
  exact bm32 (by omega) (by omega)
theorem wide_ne {x : Int32} (h : 1 ≤ x.toInt) : x.toInt64 ≠ 0 := fun q => by
  have h1 : x.toInt64.toInt = 0 := by rw [q]; rfl
  rw [Int32.toInt_toInt64] at h1
  omega
theorem ix_rem (w : WT m) {g : Nat} (hg : g < 7) (hG : 1 ≤ (m.1 187 10).toInt) : m.1 187 10 ≠ 0 ∧ ∃ r : Nat, r ≤ 39 ∧ nI g - nI g / (m.1 187 10) * (m.1 187 10) = nI r ∧ vp_in ((4 : Int32) * nI r) 160 ∧ vp_in ((4 : Int32) * nI r + 1) 160 ∧ vp_in ((4 : Int32) * nI r + 2) 160 ∧ (∀ m' : Wm, WT m' → (0 ≤ (m'.1 194 ((4 : Int32) * nI r).toNatClampNeg).toInt ∧ (m'.1 194 ((4 : Int32) * nI r).toNatClampNeg).toInt ≤ 7) ∧ (0 ≤ (m'.1 194 ((4 : Int32) * nI r + 1).toNatClampNeg).toInt ∧ (m'.1 194 ((4 : Int32) * nI r + 1).toNatClampNeg).toInt ≤ 7)) := by
  have z0 : (0 : Int32).toInt = 0 := rfl
  obtain ⟨G, e, -, G1, G2, G3⟩ := w.nat (a := 187) (k := 10) rfl (by decide)
  rw [e, nI_toInt G3] at hG
  have hr := Nat.mod_lt g (show 0 < G by omega)
  refine ⟨fun q => ?_, g % G, by omega, by rw [e]; exact nI_rem (by omega) G3 (by omega), ?_, ?_, ?_, fun m' w' => ⟨w'.p40 (x := nI (g % G)) ⟨by rw [nI_toInt (by omega)]; omega, by rw [nI_toInt (by omega)]; omega⟩, w'.p41 (x := nI (g % G)) ⟨by rw [nI_toInt (by omega)]; omega, by rw [nI_toInt (by omega)]; omega⟩⟩⟩
  · have := congrArg Int32.toInt (e.symm.trans q)
    rw [nI_toInt G3] at this
    omega
  · rw [l_mul 4 4 rfl]; exact nat_in (by omega) (by decide)
  · rw [l_mul 4 4 rfl, nI_1]; exact nat_in (by omega) (by decide)
  · rw [l_mul 4 4 rfl, add_l 2 2 rfl]; exact nat_in (by omega) (by decide)
def cwQ (m : Wm) (r : Option Value) (m' : Wm) : Prop := WT m' ∧ Fx (RS [22, 24, 28, 36, 37, 49]) m m' ∧ ∃ v : Int64, r = some (.long v)
theorem cow_ok : ∀ (k : Nat) {d : Nat} {m : Wm} {x1 x4 : Int32} {g n : Nat}, WT m → g + k = n → n ≤ 6 → 1 ≤ (m.1 187 10).toInt → Ct ad μX12_chanceOfWins (d + 2 * k + 172) [.ref (ad 187), .int x1, .int (nI g), .int (nI n), .int x4] m (cwQ m) := by
  intro k
  induction k with
  | zero =>
    intro d m x1 x4 g n w hk hn hG
    obtain rfl : g = n := by omega
    exact v_X12_chanceOfWins ⟨fun _ => ⟨w, Fx.rf, _, rfl⟩, fun _ => ⟨fun _ => ⟨fun c => absurd rfl c, fun _ => ⟨w, Fx.rf, _, rfl⟩⟩, fun _ => ⟨w, Fx.rf, _, rfl⟩⟩⟩
  | succ k ih =>
    intro d m x1 x4 g n w hk hn hG
    have cb : ∀ {m : Wm} {x5 : Int32}, WT m → 1 ≤ (m.1 187 10).toInt → Ct ad μX12_chanceBehind (d + 2 * k + 173) [.ref (ad 187), .int x1, .int (nI g), .int (nI n), .int x4, .int x5] m (cwQ m) := by
      intro m x5 w hG
      obtain ⟨hG0, r, hr, er, v0, v1, v2, hp⟩ := ix_rem w (g := g) (by omega) hG
      refine v_X12_chanceBehind (d := d + 2 * k + 172) ?_
      rw [er]
      have l57 : (57 : Int32) * nI g = nI (57 * g) := l_mul 57 57 rfl g
      have t57 : (nI (57 * g)).toInt = ((57 * g : Nat) : Int) := nI_toInt (by omega)
      rw [l57]
      refine ⟨hG0, v0, v1, (s_X12_lay_211 w (by omega) (by omega)).to ?_⟩
      rintro _ m1 ⟨w1, f1, rfl⟩
      refine ⟨rfl, v2, (s_X12_settle w1 (hp m w).1.1 (hp m w).1.2 (hp m w).2.1 (hp m w).2.2).to ?_⟩
      rintro _ m2 ⟨w2, f2, rfl⟩
      have f2' : Fx (RS [22, 24, 28, 36, 37, 49]) m m2 := ((Fx.rf (S := RS [22, 24, 28, 36, 37, 49])).tr f1 (RS_sub rfl)).tr f2 (RS_sub rfl)
      have h10 : (m2.1 187 10).toInt = (m.1 187 10).toInt := congrArg _ (f2'.at (by decide))
      have J109 : ∀ s0 : Int32, AW ad E0 μX12_chanceBehind (d + 2 * k + 173) (cwQ m) 109 [(0, .ref (ad 187)), (2, .int (nI g))] [.int s0, .int x4, .int (nI n), .int (nI g + 1), .int x1, .ref (ad 187)] m2 := by
        intro s0
        refine g_X12_chanceBehind_109 ?_
        rw [nI_1, l57]
        refine (ih w2 (by omega) hn (by omega)).to ?_
        rintro _ m3 ⟨w3, f3, v, rfl⟩
        refine ⟨v, rfl, (s_X12_bring_211 w3 (by omega) (by omega)).to ?_⟩
        rintro _ m4 ⟨w4, f4, rfl⟩
        exact ⟨rfl, w4, (f2'.tr f3 (RS_sub rfl)).tr f4 (RS_sub rfl), v, rfl⟩
      have J89 : ∀ s0 : Int32, AW ad E0 μX12_chanceBehind (d + 2 * k + 173) (cwQ m) 89 [(0, .ref (ad 187)), (1, .int x1), (2, .int (nI g)), (3, .int (nI n)), (4, .int x4)] [.int s0] m2 := fun s0 => g_X12_chanceBehind_89 ⟨fun _ => J109 0, fun _ => J109 1⟩
      have J72 : ∀ x8 : Int32, AW ad E0 μX12_chanceBehind (d + 2 * k + 173) (cwQ m) 72 [(0, .ref (ad 187)), (1, .int x1), (2, .int (nI g)), (3, .int (nI n)), (4, .int x4), (5, .int x5), (8, .int x8)] [] m2 := fun x8 => g_X12_chanceBehind_72 ⟨fun _ => J89 0, fun _ => ⟨fun _ => J89 0, fun _ => J89 1⟩⟩
      exact ⟨rfl, fun _ => J72 _, fun _ => ⟨fun _ => J89 1, fun _ => J72 _⟩⟩
    rw [show d + 2 * (k + 1) + 172 = d + 2 * k + 174 by omega]
    refine v_X12_chanceOfWins (d := d + 2 * k + 173) ⟨fun _ => ⟨w, Fx.rf, _, rfl⟩, fun _ => ⟨fun _ => ⟨fun _ => ?_, fun _ => ⟨w, Fx.rf, _, rfl⟩⟩, fun _ => ⟨w, Fx.rf, _, rfl⟩⟩⟩
    obtain ⟨hG0, r, hr, er, v0, v1, v2, hp⟩ := ix_rem w (g := g) (by omega) hG
    rw [er]
    refine ⟨hG0, v0, v1, v2, fun _ => (s_X12_chanceOf w (hp m w).1.1 (hp m w).1.2 (hp m w).2.1 (hp m w).2.2).to ?_, fun _ => (s_X12_winner w (hp m w).1.1 (hp m w).1.2 (hp m w).2.1 (hp m w).2.2).to ?_⟩
    · rintro _ m1 ⟨w1, f1, v, rfl, b1, b2⟩
      have J : ∀ (m2 : Wm) (y9 z0 : Int64), WT m2 → Fx (RS [22, 24, 28, 36, 37, 49]) m m2 → AW ad E0 μX12_chanceOfWins (d + 2 * k + 174) (cwQ m) 131 [(0, .ref (ad 187)), (1, .int x1), (2, .int (nI g)), (3, .int (nI n)), (4, .int x4), (9, .long y9)] [.long z0] m2 := by
        intro m2 y9 z0 w2 f2
        refine g_X12_chanceOfWins_131 (d := d + 2 * k + 173) ⟨fun _ => ⟨w2, f2, _, rfl⟩, fun _ => (cb w2 (by rw [f2.at (a := 187) (k := 10) (by decide)]; exact hG)).to ?_⟩
        rintro _ m3 ⟨w3, f3, v3, rfl⟩
        exact ⟨v3, rfl, w3, f2.tr f3 (RS_sub rfl), _, rfl⟩
      have f1' : Fx (RS [22, 24, 28, 36, 37, 49]) m m1 := (Fx.rf (S := RS [22, 24, 28, 36, 37, 49])).tr f1 (RS_sub rfl)
      refine ⟨v, rfl, fun _ => J m1 _ _ w1 f1', fun _ => (cb w1 (by rw [f1.at (a := 187) (k := 10) (by decide)]; exact hG)).to ?_⟩
      rintro _ m3 ⟨w3, f3, v3, rfl⟩
      exact ⟨v3, rfl, J m3 _ _ w3 (f1'.tr f3 (RS_sub rfl))⟩
    · rintro _ m1 ⟨w1, f1, v, rfl, b1, b2⟩
      refine ⟨v, rfl, (cb w1 (by rw [f1.at (a := 187) (k := 10) (by decide)]; exact hG)).to ?_⟩
      rintro _ m3 ⟨w3, f3, v3, rfl⟩
      exact ⟨v3, rfl, w3, ((Fx.rf (S := RS [22, 24, 28, 36, 37, 49])).tr f1 (RS_sub rfl)).tr f3 (RS_sub rfl), _, rfl⟩
theorem hop_ok : ∀ (k : Nat) {d : Nat} {m : Wm} {g n : Nat}, WT m → g + k = n → n ≤ 6 → 1 ≤ (m.1 187 10).toInt → Ct ad μX12_hopeOf (d + 2 * k + 172) [.ref (ad 187), .int (nI g), .int (nI n)] m (cwQ m) := by
  intro k
  induction k with
  | zero =>
    intro d m g n w hk hn hG
    obtain rfl : g = n := by omega
    refine v_X12_hopeOf ⟨fun c => absurd rfl c, fun _ => (s_X12_sumOfAll w).to ?_⟩
    rintro _ m1 ⟨w1, f1, v, rfl⟩
    exact ⟨v, rfl, (w1.n rfl).n rfl, (((Fx.rf (S := RS [22, 24, 28, 36, 37, 49])).tr f1 (RS_sub rfl)).i rfl).i rfl, _, rfl⟩
  | succ k ih =>
    intro d m g n w hk hn hG
    have hgn : nI g ≠ nI n := fun q => by
      have := congrArg Int32.toInt q
      rw [nI_toInt (by omega), nI_toInt (by omega)] at this
      omega
    have cb : ∀ {m : Wm} {x5 : Int32}, WT m → 1 ≤ (m.1 187 10).toInt → Ct ad μX12_hopeBehind (d + 2 * k + 173) [.ref (ad 187), .int (nI g), .int (nI n), .int x5] m (cwQ m) := by
      intro m x5 w hG
      obtain ⟨hG0, r, hr, er, v0, v1, v2, hp⟩ := ix_rem w (g := g) (by omega) hG
      refine v_X12_hopeBehind (d := d + 2 * k + 172) ?_
      rw [er]
      have l57 : (57 : Int32) * nI g = nI (57 * g) := l_mul 57 57 rfl g
      have t57 : (nI (57 * g)).toInt = ((57 * g : Nat) : Int) := nI_toInt (by omega)
      rw [l57, nI_1]
      refine ⟨hG0, (s_X12_lay_211 w (by omega) (by omega)).to ?_⟩
      rintro _ m1 ⟨w1, f1, rfl⟩
      refine ⟨rfl, v0, v1, v2, (s_X12_settle w1 (hp m1 w1).1.1 (hp m1 w1).1.2 (hp m1 w1).2.1 (hp m1 w1).2.2).to ?_⟩
      rintro _ m2 ⟨w2, f2, rfl⟩
      have f2' : Fx (RS [22, 24, 28, 36, 37, 49]) m m2 := ((Fx.rf (S := RS [22, 24, 28, 36, 37, 49])).tr f1 (RS_sub rfl)).tr f2 (RS_sub rfl)
      have h10 : (m2.1 187 10).toInt = (m.1 187 10).toInt := congrArg _ (f2'.at (by decide))
      refine ⟨rfl, (ih w2 (by omega) hn (by omega)).to ?_⟩
      rintro _ m3 ⟨w3, f3, v, rfl⟩
      refine ⟨v, rfl, (s_X12_bring_211 w3 (by omega) (by omega)).to ?_⟩
      rintro _ m4 ⟨w4, f4, rfl⟩
      exact ⟨rfl, w4, (f2'.tr f3 (RS_sub rfl)).tr f4 (RS_sub rfl), v, rfl⟩
    rw [show d + 2 * (k + 1) + 172 = d + 2 * k + 174 by omega]
    refine v_X12_hopeOf (d := d + 2 * k + 173) ⟨fun _ => ?_, fun c => absurd c hgn⟩
    obtain ⟨hG0, r, hr, er, v0, v1, v2, hp⟩ := ix_rem w (g := g) (by omega) hG
    rw [er]
    refine ⟨hG0, v2, fun _ => ⟨v0, v1, (s_X12_chanceOf w (hp m w).1.1 (hp m w).1.2 (hp m w).2.1 (hp m w).2.2).to ?_⟩, fun _ => ⟨v0, v1, (s_X12_winner w (hp m w).1.1 (hp m w).1.2 (hp m w).2.1 (hp m w).2.2).to ?_⟩⟩
    · rintro _ m1 ⟨w1, f1, v, rfl, b1, b2⟩
      have J : ∀ (m2 : Wm) (y9 z0 : Int64), WT m2 → Fx (RS [22, 24, 28, 36, 37, 49]) m m2 → AW ad E0 μX12_hopeOf (d + 2 * k + 174) (cwQ m) 134 [(0, .ref (ad 187)), (1, .int (nI g)), (2, .int (nI n)), (5, .long y9)] [.long z0] m2 := by
        intro m2 y9 z0 w2 f2
        refine g_X12_hopeOf_134 (d := d + 2 * k + 173) ⟨fun _ => ⟨w2, f2, _, rfl⟩, fun _ => (cb w2 (by rw [f2.at (a := 187) (k := 10) (by decide)]; exact hG)).to ?_⟩
        rintro _ m3 ⟨w3, f3, v3, rfl⟩
        exact ⟨v3, rfl, w3, f2.tr f3 (RS_sub rfl), _, rfl⟩
      have f1' : Fx (RS [22, 24, 28, 36, 37, 49]) m m1 := (Fx.rf (S := RS [22, 24, 28, 36, 37, 49])).tr f1 (RS_sub rfl)
      refine ⟨v, rfl, fun _ => J m1 _ _ w1 f1', fun _ => (cb w1 (by rw [f1.at (a := 187) (k := 10) (by decide)]; exact hG)).to ?_⟩
      rintro _ m3 ⟨w3, f3, v3, rfl⟩
      exact ⟨v3, rfl, J m3 _ _ w3 (f1'.tr f3 (RS_sub rfl))⟩
    · rintro _ m1 ⟨w1, f1, v, rfl, b1, b2⟩
      refine ⟨v, rfl, (cb w1 (by rw [f1.at (a := 187) (k := 10) (by decide)]; exact hG)).to ?_⟩
      rintro _ m3 ⟨w3, f3, v3, rfl⟩
      exact ⟨v3, rfl, w3, ((Fx.rf (S := RS [22, 24, 28, 36, 37, 49])).tr f1 (RS_sub rfl)).tr f3 (RS_sub rfl), _, rfl⟩
theorem s_X12_chanceOfWins {d : Nat} {x1 x3 x4 : Int32} (w : WT m) (i1 : 0 ≤ x3.toInt) (i2 : x3.toInt ≤ 6) (i3 : 1 ≤ (m.1 187 10).toInt) : Ct ad μX12_chanceOfWins (d + 190) [.ref (ad 187), .int x1, .int 0, .int x3, .int x4] m (fun r m' => WT m' ∧ Fx (RS [22, 24, 28, 36, 37, 49]) m m' ∧ ∃ v : Int64, r = some (.long v)) := by
  obtain ⟨n, hn, rfl⟩ := zn_of i1
  rw [nI_toInt hn] at i2
  have h := cow_ok (ad := ad) n (d := d + 18 - 2 * n) (x1 := x1) (x4 := x4) (g := 0) (n := n) w (by omega) (by omega) i3
  rw [show d + 18 - 2 * n + 2 * n + 172 = d + 190 by omega] at h
  exact h
theorem s_X12_hopeOf {d : Nat} {x2 : Int32} (w : WT m) (i1 : 0 ≤ x2.toInt) (i2 : x2.toInt ≤ 6) (i3 : 1 ≤ (m.1 187 10).toInt) : Ct ad μX12_hopeOf (d + 190) [.ref (ad 187), .int 0, .int x2] m (fun r m' => WT m' ∧ Fx (RS [22, 24, 28, 36, 37, 49]) m m' ∧ ∃ v : Int64, r = some (.long v)) := by
  obtain ⟨n, hn, rfl⟩ := zn_of i1
  rw [nI_toInt hn] at i2
  have h := hop_ok (ad := ad) n (d := d + 18 - 2 * n) (g := 0) (n := n) w (by omega) (by omega) i3
  rw [show d + 18 - 2 * n + 2 * n + 172 = d + 190 by omega] at h
  exact h
end CW
