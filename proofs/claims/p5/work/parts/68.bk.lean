/-! CHANCES OF GAMES AHEAD: the model's league is afterwards as it was -/
def selfG (m : Wm) : GS := (m.1 188, m.1 190, m.1 191, m.1 192, m.1 187 8)
theorem HM.self {n : Nat} {m : Wm} : HM n m (selfG m) := ⟨fun _ _ => rfl, fun _ _ => rfl, fun _ _ => rfl, fun _ _ => rfl, rfl⟩
def rwQ (sn : Nat) (m : Wm) (gs : GS) (g : Nat) (r : Option Value) (m' : Wm) : Prop := WT m' ∧ Fx (RS [22, 24, 28, 36, 37, 49]) m m' ∧ HM sn m' gs ∧ (∀ j, j < 57 * g → m'.1 211 j = m.1 211 j) ∧ ∃ v : Int64, r = some (.long v)
section RCO
variable {ad : Nat → Nat} {m : Wm}
theorem r_cow : ∀ (k : Nat) {d : Nat} {m : Wm} {x1 x4 : Int32} {g n : Nat} {gs : GS} {sn : Nat}, sn ≤ 8 → WT m → HM sn m gs → g + k = n → n ≤ 6 → 1 ≤ (m.1 187 10).toInt → Ct ad μX12_chanceOfWins (d + 2 * k + 172) [.ref (ad 187), .int x1, .int (nI g), .int (nI n), .int x4] m (rwQ sn m gs g) := by
  intro k
  induction k with
  | zero =>
    intro d m x1 x4 g n gs sn h8 w hm hk hn hG
    obtain rfl : g = n := by omega
    exact v_X12_chanceOfWins ⟨fun _ => ⟨w, Fx.rf, hm, fun _ _ => rfl, _, rfl⟩, fun _ => ⟨fun _ => ⟨fun c => absurd rfl c, fun _ => ⟨w, Fx.rf, hm, fun _ _ => rfl, _, rfl⟩⟩, fun _ => ⟨w, Fx.rf, hm, fun _ _ => rfl, _, rfl⟩⟩⟩
  | succ k ih =>
    intro d m x1 x4 g n gs sn h8 w hm hk hn hG
    have cb : ∀ {m : Wm} {x5 : Int32}, WT m → HM sn m gs → 1 ≤ (m.1 187 10).toInt → Ct ad μX12_chanceBehind (d + 2 * k + 173) [.ref (ad 187), .int x1, .int (nI g), .int (nI n), .int x4, .int x5] m (rwQ sn m gs g) := by
      intro m x5 w hm hG
      obtain ⟨hG0, r, hr, er, v0, v1, v2, hp⟩ := ix_rem w (g := g) (by omega) hG
      refine v_X12_chanceBehind (d := d + 2 * k + 172) ?_
      rw [er]
      have l57 : (57 : Int32) * nI g = nI (57 * g) := l_mul 57 57 rfl g
      have t57 : (nI (57 * g)).toInt = ((57 * g : Nat) : Int) := nI_toInt (by omega)
      rw [l57]
      refine ⟨hG0, v0, v1, (layH (x := 57 * g) (na := 399) (reg := 36) rfl (by decide) (by decide) (fun _ => rfl) (fun _ => rfl) w hm h8 (by omega)).to ?_⟩
      rintro _ m1 ⟨rfl, w1, f1, hL, hO, -⟩
      refine ⟨rfl, v2, (s_X12_settle w1 (hp m w).1.1 (hp m w).1.2 (hp m w).2.1 (hp m w).2.2).to ?_⟩
      rintro _ m2 ⟨w2, f2, rfl⟩
      have f2' : Fx (RS [22, 24, 28, 36, 37, 49]) m m2 := ((Fx.rf (S := RS [22, 24, 28, 36, 37, 49])).tr f1 (RS_sub rfl)).tr f2 (RS_sub rfl)
      have h10 : (m2.1 187 10).toInt = (m.1 187 10).toInt := congrArg _ (f2'.at (by decide))
      have J109 : ∀ s0 : Int32, AW ad E0 μX12_chanceBehind (d + 2 * k + 173) (rwQ sn m gs g) 109 [(0, .ref (ad 187)), (2, .int (nI g))] [.int s0, .int x4, .int (nI n), .int (nI g + 1), .int x1, .ref (ad 187)] m2 := by
        intro s0
        refine g_X12_chanceBehind_109 ?_
        rw [nI_1, l57]
        refine (ih (gs := selfG m2) (sn := sn) h8 w2 HM.self (by omega) hn (by omega)).to ?_
        rintro _ m3 ⟨w3, f3, -, b3, v, rfl⟩
        have hL3 : HL sn 211 (57 * g) m3 gs := (hL.fx f2 (fun _ => rfl) rfl).k (fun k h1 h2 => b3 k (by omega))
        refine ⟨v, rfl, (bringH (x := 57 * g) (na := 399) rfl (by decide) (by decide) w3 hL3 (by omega)).to ?_⟩
        rintro _ m4 ⟨rfl, w4, f4, hm4⟩
        exact ⟨rfl, w4, (f2'.tr f3 (RS_sub rfl)).tr f4 (RS_sub rfl), hm4, fun j hj => (f4.at (nRS (ρ := 36) rfl rfl)).trans ((b3 j (by omega)).trans ((f2.at (nRS (ρ := 36) rfl rfl)).trans (hO j (by omega)))), v, rfl⟩
      have J89 : ∀ s0 : Int32, AW ad E0 μX12_chanceBehind (d + 2 * k + 173) (rwQ sn m gs g) 89 [(0, .ref (ad 187)), (1, .int x1), (2, .int (nI g)), (3, .int (nI n)), (4, .int x4)] [.int s0] m2 := fun s0 => g_X12_chanceBehind_89 ⟨fun _ => J109 0, fun _ => J109 1⟩
      have J72 : ∀ x8 : Int32, AW ad E0 μX12_chanceBehind (d + 2 * k + 173) (rwQ sn m gs g) 72 [(0, .ref (ad 187)), (1, .int x1), (2, .int (nI g)), (3, .int (nI n)), (4, .int x4), (5, .int x5), (8, .int x8)] [] m2 := fun x8 => g_X12_chanceBehind_72 ⟨fun _ => J89 0, fun _ => ⟨fun _ => J89 0, fun _ => J89 1⟩⟩
      exact ⟨rfl, fun _ => J72 _, fun _ => ⟨fun _ => J89 1, fun _ => J72 _⟩⟩
    rw [show d + 2 * (k + 1) + 172 = d + 2 * k + 174 by omega]
    refine v_X12_chanceOfWins (d := d + 2 * k + 173) ⟨fun _ => ⟨w, Fx.rf, hm, fun _ _ => rfl, _, rfl⟩, fun _ => ⟨fun _ => ⟨fun _ => ?_, fun _ => ⟨w, Fx.rf, hm, fun _ _ => rfl, _, rfl⟩⟩, fun _ => ⟨w, Fx.rf, hm, fun _ _ => rfl, _, rfl⟩⟩⟩
    obtain ⟨hG0, r, hr, er, v0, v1, v2, hp⟩ := ix_rem w (g := g) (by omega) hG
    rw [er]
    refine ⟨hG0, v0, v1, v2, fun _ => (s_X12_chanceOf w (hp m w).1.1 (hp m w).1.2 (hp m w).2.1 (hp m w).2.2).to ?_, fun _ => (s_X12_winner w (hp m w).1.1 (hp m w).1.2 (hp m w).2.1 (hp m w).2.2).to ?_⟩
    · rintro _ m1 ⟨w1, f1, v, rfl, b1, b2⟩
      have hm1 := hm.fx f1 rfl rfl
      have o1 : ∀ j, j < 57 * g → m1.1 211 j = m.1 211 j := fun j _ => f1.at (nRS (ρ := 36) rfl rfl)
      have J : ∀ (m2 : Wm) (y9 z0 : Int64), WT m2 → Fx (RS [22, 24, 28, 36, 37, 49]) m m2 → HM sn m2 gs → (∀ j, j < 57 * g → m2.1 211 j = m.1 211 j) → AW ad E0 μX12_chanceOfWins (d + 2 * k + 174) (rwQ sn m gs g) 131 [(0, .ref (ad 187)), (1, .int x1), (2, .int (nI g)), (3, .int (nI n)), (4, .int x4), (9, .long y9)] [.long z0] m2 := by
        intro m2 y9 z0 w2 f2 hm2 o2
        refine g_X12_chanceOfWins_131 (d := d + 2 * k + 173) ⟨fun _ => ⟨w2, f2, hm2, o2, _, rfl⟩, fun _ => (cb w2 hm2 (by rw [f2.at (a := 187) (k := 10) (by decide)]; exact hG)).to ?_⟩
        rintro _ m3 ⟨w3, f3, hm3, o3, v3, rfl⟩
        exact ⟨v3, rfl, w3, f2.tr f3 (RS_sub rfl), hm3, fun j hj => (o3 j hj).trans (o2 j hj), _, rfl⟩
      have f1' : Fx (RS [22, 24, 28, 36, 37, 49]) m m1 := (Fx.rf (S := RS [22, 24, 28, 36, 37, 49])).tr f1 (RS_sub rfl)
      refine ⟨v, rfl, fun _ => J m1 _ _ w1 f1' hm1 o1, fun _ => (cb w1 hm1 (by rw [f1.at (a := 187) (k := 10) (by decide)]; exact hG)).to ?_⟩
      rintro _ m3 ⟨w3, f3, hm3, o3, v3, rfl⟩
      exact ⟨v3, rfl, J m3 _ _ w3 (f1'.tr f3 (RS_sub rfl)) hm3 (fun j hj => (o3 j hj).trans (o1 j hj))⟩
    · rintro _ m1 ⟨w1, f1, v, rfl, b1, b2⟩
      have hm1 := hm.fx f1 rfl rfl
      have o1 : ∀ j, j < 57 * g → m1.1 211 j = m.1 211 j := fun j _ => f1.at (nRS (ρ := 36) rfl rfl)
      refine ⟨v, rfl, (cb w1 hm1 (by rw [f1.at (a := 187) (k := 10) (by decide)]; exact hG)).to ?_⟩
      rintro _ m3 ⟨w3, f3, hm3, o3, v3, rfl⟩
      exact ⟨v3, rfl, w3, ((Fx.rf (S := RS [22, 24, 28, 36, 37, 49])).tr f1 (RS_sub rfl)).tr f3 (RS_sub rfl), hm3, fun j hj => (o3 j hj).trans (o1 j hj), _, rfl⟩
theorem r_hop : ∀ (k : Nat) {d : Nat} {m : Wm} {g n : Nat} {gs : GS} {sn : Nat}, sn ≤ 8 → WT m → HM sn m gs → g + k = n → n ≤ 6 → 1 ≤ (m.1 187 10).toInt → Ct ad μX12_hopeOf (d + 2 * k + 172) [.ref (ad 187), .int (nI g), .int (nI n)] m (rwQ sn m gs g) := by
  intro k
  induction k with
  | zero =>
    intro d m g n gs sn h8 w hm hk hn hG
    obtain rfl : g = n := by omega
    refine v_X12_hopeOf ⟨fun c => absurd rfl c, fun _ => (s_X12_sumOfAll w).to ?_⟩
    rintro _ m1 ⟨w1, f1, v, rfl⟩
    have hm1 := hm.fx f1 rfl rfl
    exact ⟨v, rfl, (w1.n rfl).n rfl, (((Fx.rf (S := RS [22, 24, 28, 36, 37, 49])).tr f1 (RS_sub rfl)).i rfl).i rfl, hm1, fun j _ => f1.at (nRS (ρ := 36) rfl rfl), _, rfl⟩
  | succ k ih =>
    intro d m g n gs sn h8 w hm hk hn hG
    have hgn : nI g ≠ nI n := fun q => by
      have := congrArg Int32.toInt q
      rw [nI_toInt (by omega), nI_toInt (by omega)] at this
      omega
    have cb : ∀ {m : Wm} {x5 : Int32}, WT m → HM sn m gs → 1 ≤ (m.1 187 10).toInt → Ct ad μX12_hopeBehind (d + 2 * k + 173) [.ref (ad 187), .int (nI g), .int (nI n), .int x5] m (rwQ sn m gs g) := by
      intro m x5 w hm hG
      obtain ⟨hG0, r, hr, er, v0, v1, v2, hp⟩ := ix_rem w (g := g) (by omega) hG
      refine v_X12_hopeBehind (d := d + 2 * k + 172) ?_
      rw [er]
      have l57 : (57 : Int32) * nI g = nI (57 * g) := l_mul 57 57 rfl g
      have t57 : (nI (57 * g)).toInt = ((57 * g : Nat) : Int) := nI_toInt (by omega)
      rw [l57, nI_1]
      refine ⟨hG0, (layH (x := 57 * g) (na := 399) (reg := 36) rfl (by decide) (by decide) (fun _ => rfl) (fun _ => rfl) w hm h8 (by omega)).to ?_⟩
      rintro _ m1 ⟨rfl, w1, f1, hL, hO, -⟩
      refine ⟨rfl, v0, v1, v2, (s_X12_settle w1 (hp m1 w1).1.1 (hp m1 w1).1.2 (hp m1 w1).2.1 (hp m1 w1).2.2).to ?_⟩
      rintro _ m2 ⟨w2, f2, rfl⟩
      have f2' : Fx (RS [22, 24, 28, 36, 37, 49]) m m2 := ((Fx.rf (S := RS [22, 24, 28, 36, 37, 49])).tr f1 (RS_sub rfl)).tr f2 (RS_sub rfl)
      have h10 : (m2.1 187 10).toInt = (m.1 187 10).toInt := congrArg _ (f2'.at (by decide))
      refine ⟨rfl, (ih (gs := selfG m2) (sn := sn) h8 w2 HM.self (by omega) hn (by omega)).to ?_⟩
      rintro _ m3 ⟨w3, f3, -, b3, v, rfl⟩
      have hL3 : HL sn 211 (57 * g) m3 gs := (hL.fx f2 (fun _ => rfl) rfl).k (fun k h1 h2 => b3 k (by omega))
      refine ⟨v, rfl, (bringH (x := 57 * g) (na := 399) rfl (by decide) (by decide) w3 hL3 (by omega)).to ?_⟩
      rintro _ m4 ⟨rfl, w4, f4, hm4⟩
      exact ⟨rfl, w4, (f2'.tr f3 (RS_sub rfl)).tr f4 (RS_sub rfl), hm4, fun j hj => (f4.at (nRS (ρ := 36) rfl rfl)).trans ((b3 j (by omega)).trans ((f2.at (nRS (ρ := 36) rfl rfl)).trans (hO j (by omega)))), v, rfl⟩
    rw [show d + 2 * (k + 1) + 172 = d + 2 * k + 174 by omega]
    refine v_X12_hopeOf (d := d + 2 * k + 173) ⟨fun _ => ?_, fun c => absurd c hgn⟩
    obtain ⟨hG0, r, hr, er, v0, v1, v2, hp⟩ := ix_rem w (g := g) (by omega) hG
    rw [er]
    refine ⟨hG0, v2, fun _ => ⟨v0, v1, (s_X12_chanceOf w (hp m w).1.1 (hp m w).1.2 (hp m w).2.1 (hp m w).2.2).to ?_⟩, fun _ => ⟨v0, v1, (s_X12_winner w (hp m w).1.1 (hp m w).1.2 (hp m w).2.1 (hp m w).2.2).to ?_⟩⟩
    · rintro _ m1 ⟨w1, f1, v, rfl, b1, b2⟩
      have hm1 := hm.fx f1 rfl rfl
      have o1 : ∀ j, j < 57 * g → m1.1 211 j = m.1 211 j := fun j _ => f1.at (nRS (ρ := 36) rfl rfl)
      have J : ∀ (m2 : Wm) (y9 z0 : Int64), WT m2 → Fx (RS [22, 24, 28, 36, 37, 49]) m m2 → HM sn m2 gs → (∀ j, j < 57 * g → m2.1 211 j = m.1 211 j) → AW ad E0 μX12_hopeOf (d + 2 * k + 174) (rwQ sn m gs g) 134 [(0, .ref (ad 187)), (1, .int (nI g)), (2, .int (nI n)), (5, .long y9)] [.long z0] m2 := by
        intro m2 y9 z0 w2 f2 hm2 o2
        refine g_X12_hopeOf_134 (d := d + 2 * k + 173) ⟨fun _ => ⟨w2, f2, hm2, o2, _, rfl⟩, fun _ => (cb w2 hm2 (by rw [f2.at (a := 187) (k := 10) (by decide)]; exact hG)).to ?_⟩
        rintro _ m3 ⟨w3, f3, hm3, o3, v3, rfl⟩
        exact ⟨v3, rfl, w3, f2.tr f3 (RS_sub rfl), hm3, fun j hj => (o3 j hj).trans (o2 j hj), _, rfl⟩
      have f1' : Fx (RS [22, 24, 28, 36, 37, 49]) m m1 := (Fx.rf (S := RS [22, 24, 28, 36, 37, 49])).tr f1 (RS_sub rfl)
      refine ⟨v, rfl, fun _ => J m1 _ _ w1 f1' hm1 o1, fun _ => (cb w1 hm1 (by rw [f1.at (a := 187) (k := 10) (by decide)]; exact hG)).to ?_⟩
      rintro _ m3 ⟨w3, f3, hm3, o3, v3, rfl⟩
      exact ⟨v3, rfl, J m3 _ _ w3 (f1'.tr f3 (RS_sub rfl)) hm3 (fun j hj => (o3 j hj).trans (o1 j hj))⟩
    · rintro _ m1 ⟨w1, f1, v, rfl, b1, b2⟩
      have hm1 := hm.fx f1 rfl rfl
      have o1 : ∀ j, j < 57 * g → m1.1 211 j = m.1 211 j := fun j _ => f1.at (nRS (ρ := 36) rfl rfl)
      refine ⟨v, rfl, (cb w1 hm1 (by rw [f1.at (a := 187) (k := 10) (by decide)]; exact hG)).to ?_⟩
      rintro _ m3 ⟨w3, f3, hm3, o3, v3, rfl⟩
      exact ⟨v3, rfl, w3, ((Fx.rf (S := RS [22, 24, 28, 36, 37, 49])).tr f1 (RS_sub rfl)).tr f3 (RS_sub rfl), hm3, fun j hj => (o3 j hj).trans (o1 j hj), _, rfl⟩
theorem r_chanceOfWins {d : Nat} {x1 x3 x4 : Int32} {gs : GS} {sn : Nat} (h8 : sn ≤ 8) (w : WT m) (hm : HM sn m gs) (i1 : 0 ≤ x3.toInt) (i2 : x3.toInt ≤ 6) (i3 : 1 ≤ (m.1 187 10).toInt) : Ct ad μX12_chanceOfWins (d + 190) [.ref (ad 187), .int x1, .int 0, .int x3, .int x4] m (fun r m' => WT m' ∧ Fx (RS [22, 24, 28, 36, 37, 49]) m m' ∧ HM sn m' gs ∧ ∃ v : Int64, r = some (.long v)) := by
  obtain ⟨n, hn, rfl⟩ := zn_of i1
  rw [nI_toInt hn] at i2
  have h := r_cow (ad := ad) n (d := d + 18 - 2 * n) (x1 := x1) (x4 := x4) (g := 0) (n := n) h8 w hm (by omega) (by omega) i3
  rw [show d + 18 - 2 * n + 2 * n + 172 = d + 190 by omega] at h
  exact h.to (fun r m' q => ⟨q.1, q.2.1, q.2.2.1, q.2.2.2.2⟩)
theorem r_hopeOf {d : Nat} {x2 : Int32} {gs : GS} {sn : Nat} (h8 : sn ≤ 8) (w : WT m) (hm : HM sn m gs) (i1 : 0 ≤ x2.toInt) (i2 : x2.toInt ≤ 6) (i3 : 1 ≤ (m.1 187 10).toInt) : Ct ad μX12_hopeOf (d + 190) [.ref (ad 187), .int 0, .int x2] m (fun r m' => WT m' ∧ Fx (RS [22, 24, 28, 36, 37, 49]) m m' ∧ HM sn m' gs ∧ ∃ v : Int64, r = some (.long v)) := by
  obtain ⟨n, hn, rfl⟩ := zn_of i1
  rw [nI_toInt hn] at i2
  have h := r_hop (ad := ad) n (d := d + 18 - 2 * n) (g := 0) (n := n) h8 w hm (by omega) (by omega) i3
  rw [show d + 18 - 2 * n + 2 * n + 172 = d + 190 by omega] at h
  exact h.to (fun r m' q => ⟨q.1, q.2.1, q.2.2.1, q.2.2.2.2⟩)
end RCO
