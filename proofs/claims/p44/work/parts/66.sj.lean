/-! CALL: seen -/
section SEE
variable {ad : Nat → Nat} {d n q : Nat} {m : Wm} {x1 x2 x3 : Int32} {K : Wm → Prop}
def SeP (n q : Nat) (x1 x2 x3 : Int32) : Prop := Two n x1 x2 ∧ 0 ≤ x3.toInt ∧ x3.toInt ≤ 2 ∧ q < 12
theorem e_seenC (w : WT m) (hn : m.1 3 3 = nI n) (n8 : n ≤ 8) (hq : m.1 0 15 = nI q) (q12 : q ≤ 12) : Ct ad μX11_seen (d + 2) [.ref (ad 0), .int x1, .int x2, .int x3] m (fun r m' => WT m' ∧ Fx (RS [8, 56]) m m' ∧ ((¬ SeP n q x1 x2 x3 ∧ r = some (.int (-1)) ∧ m' = m) ∨ (SeP n q x1 x2 x3 ∧ r = some (.int (nI (q + 1))) ∧ m'.1 0 15 = nI (q + 1) ∧ (∀ i, i < q → m'.1 146 i = m.1 146 i ∧ m'.1 147 i = m.1 147 i ∧ m'.1 148 i = m.1 148 i) ∧ m'.1 146 q = x1 ∧ m'.1 147 q = x2 ∧ m'.1 148 q = x3))) := by
  have no : ¬ SeP n q x1 x2 x3 → WT m ∧ Fx (RS [8, 56]) m m ∧ ((¬ SeP n q x1 x2 x3 ∧ some (Value.int (-1)) = some (.int (-1)) ∧ m = m) ∨ (SeP n q x1 x2 x3 ∧ some (Value.int (-1)) = some (.int (nI (q + 1))) ∧ m.1 0 15 = nI (q + 1) ∧ (∀ i, i < q → m.1 146 i = m.1 146 i ∧ m.1 147 i = m.1 147 i ∧ m.1 148 i = m.1 148 i) ∧ m.1 146 q = x1 ∧ m.1 147 q = x2 ∧ m.1 148 q = x3)) := fun h => ⟨w, Fx.rf, Or.inl ⟨h, rfl, rfl⟩⟩
  refine v_X11_seen (d := d + 1) ((meetC (d := d) hn n8).to ?_)
  rintro _ m1 ⟨eq, v1, rfl, y1, y2⟩
  obtain rfl := eq.symm
  have z2 : (2 : Int32).toInt = 2 := rfl
  refine ⟨v1, rfl, fun c => no (fun z => y1 c z.1), fun c => ⟨fun c2 => no (fun z => ?_), fun c2 => ⟨fun c3 => no (fun z => ?_), fun c3 => ⟨fun c4 => ?_, fun c4 => no (fun z => c4 ?_)⟩⟩⟩⟩
  · have := y_ltr (n := 0) rfl c2
    have := z.2.1
    omega
  · have := z_lt c3
    have := z.2.2.1
    omega
  · have k2 := y_nltr (n := 0) rfl c2
    have k3 := z_nlt c3
    rw [hq] at c4
    have k4 := (l_lt 12 12 rfl (by decide) (by omega)).mp c4
    have P : SeP n q x1 x2 x3 := ⟨y2 c, k2, by omega, k4⟩
    obtain ⟨p1, p2⟩ := (y2 c).1
    obtain ⟨p3, p4⟩ := (y2 c).2.1
    have V : vp_in (nI q) 12 := nat_in k4 (by decide)
    have go : ∀ m', m' = uI (uI (uI (uI m 146 q x1) 147 q x2) 148 q x3) 0 15 (nI (q + 1)) → WT m' ∧ Fx (RS [8, 56]) m m' ∧ ((¬ SeP n q x1 x2 x3 ∧ some (Value.int (nI (q + 1))) = some (.int (-1)) ∧ m' = m) ∨ (SeP n q x1 x2 x3 ∧ some (Value.int (nI (q + 1))) = some (.int (nI (q + 1))) ∧ m'.1 0 15 = nI (q + 1) ∧ (∀ i, i < q → m'.1 146 i = m.1 146 i ∧ m'.1 147 i = m.1 147 i ∧ m'.1 148 i = m.1 148 i) ∧ m'.1 146 q = x1 ∧ m'.1 147 q = x2 ∧ m'.1 148 q = x3)) := fun m' e => by
      subst e
      have t1 : (nI (q + 1)).toInt = (q + 1 : Nat) := nI_toInt (by omega)
      refine ⟨(((w.t rfl (by omega) (by omega)).t rfl (by omega) (by omega)).n rfl).t rfl (by omega) (by omega), Fx.i (Fx.i (Fx.i (Fx.i Fx.rf rfl) rfl) rfl) rfl, Or.inr ⟨P, rfl, u_eq, fun i hi => ⟨?_, ?_, ?_⟩, ?_, ?_, ?_⟩⟩
      · exact (u_ne (by omega)).trans ((u_ne (by omega)).trans ((u_ne (by omega)).trans (u_ne (by omega))))
      · exact (u_ne (by omega)).trans ((u_ne (by omega)).trans ((u_ne (by omega)).trans (u_ne (by omega))))
      · exact (u_ne (by omega)).trans ((u_ne (by omega)).trans ((u_ne (by omega)).trans (u_ne (by omega))))
      · exact (u_ne (by omega)).trans ((u_ne (by omega)).trans ((u_ne (by omega)).trans u_eq))
      · exact (u_ne (by omega)).trans ((u_ne (by omega)).trans u_eq)
      · exact (u_ne (by omega)).trans u_eq
    have key : ∀ y : Int32, y = nI q → vp_in y 12 ∧ vp_in y 12 ∧ vp_in y 12 ∧ (WT (uI (uI (uI (uI m 146 y.toNatClampNeg x1) 147 y.toNatClampNeg x2) 148 y.toNatClampNeg x3) 0 15 (y + (1 : Int32))) ∧ Fx (RS [8, 56]) m (uI (uI (uI (uI m 146 y.toNatClampNeg x1) 147 y.toNatClampNeg x2) 148 y.toNatClampNeg x3) 0 15 (y + (1 : Int32))) ∧ ((¬ SeP n q x1 x2 x3 ∧ some (Value.int (y + (1 : Int32))) = some (.int (-1)) ∧ (uI (uI (uI (uI m 146 y.toNatClampNeg x1) 147 y.toNatClampNeg x2) 148 y.toNatClampNeg x3) 0 15 (y + (1 : Int32))) = m) ∨ (SeP n q x1 x2 x3 ∧ some (Value.int (y + (1 : Int32))) = some (.int (nI (q + 1))) ∧ (uI (uI (uI (uI m 146 y.toNatClampNeg x1) 147 y.toNatClampNeg x2) 148 y.toNatClampNeg x3) 0 15 (y + (1 : Int32))).1 0 15 = nI (q + 1) ∧ (∀ i, i < q → (uI (uI (uI (uI m 146 y.toNatClampNeg x1) 147 y.toNatClampNeg x2) 148 y.toNatClampNeg x3) 0 15 (y + (1 : Int32))).1 146 i = m.1 146 i ∧ (uI (uI (uI (uI m 146 y.toNatClampNeg x1) 147 y.toNatClampNeg x2) 148 y.toNatClampNeg x3) 0 15 (y + (1 : Int32))).1 147 i = m.1 147 i ∧ (uI (uI (uI (uI m 146 y.toNatClampNeg x1) 147 y.toNatClampNeg x2) 148 y.toNatClampNeg x3) 0 15 (y + (1 : Int32))).1 148 i = m.1 148 i) ∧ (uI (uI (uI (uI m 146 y.toNatClampNeg x1) 147 y.toNatClampNeg x2) 148 y.toNatClampNeg x3) 0 15 (y + (1 : Int32))).1 146 q = x1 ∧ (uI (uI (uI (uI m 146 y.toNatClampNeg x1) 147 y.toNatClampNeg x2) 148 y.toNatClampNeg x3) 0 15 (y + (1 : Int32))).1 147 q = x2 ∧ (uI (uI (uI (uI m 146 y.toNatClampNeg x1) 147 y.toNatClampNeg x2) 148 y.toNatClampNeg x3) 0 15 (y + (1 : Int32))).1 148 q = x3))) := fun y hy => by
      subst hy
      rw [nI_clamp (by omega), nI_1]
      exact ⟨V, V, V, go _ rfl⟩
    exact key (m.1 0 15) hq
  · rw [hq]
    exact (l_lt 12 12 rfl (by decide) (by omega)).mpr z.2.2.2
theorem e_seenM (w : WT m) (hn : m.1 187 1 = nI n) (n8 : n ≤ 8) (hq : m.1 187 52 = nI q) (q12 : q ≤ 12) : Ct ad μX12_seen (d + 3) [.ref (ad 187), .int x1, .int x2, .int x3] m (fun r m' => WT m' ∧ Fx (RS [20, 39, 57]) m m' ∧ ((¬ SeP n q x1 x2 x3 ∧ r = some (.int (-1)) ∧ m' = uI m 187 17 0) ∨ (SeP n q x1 x2 x3 ∧ r = some (.int (nI (q + 1))) ∧ m'.1 187 52 = nI (q + 1) ∧ (∀ k, k < 3 * q → m'.1 213 k = m.1 213 k) ∧ m'.1 213 (3 * q) = x1 ∧ m'.1 213 (3 * q + 1) = x2 ∧ m'.1 213 (3 * q + 2) = x3))) := by
  have w0 : WT (uI m 187 17 0) := w.n rfl
  have f0 : Fx (RS [20, 39, 57]) m (uI m 187 17 0) := Fx.rf.i rfl
  have hn0 : (uI m 187 17 0).1 187 1 = nI n := hn
  have hq0 : (uI m 187 17 0).1 187 52 = nI q := hq
  have h213 : ∀ k, (uI m 187 17 0).1 213 k = m.1 213 k := fun k => rfl
  refine v_X12_seen (d := d + 2) ?_
  generalize hM : uI m 187 17 0 = m1 at w0 f0 hn0 hq0 h213 ⊢
  refine (twoM (d := d) hn0 n8).to ?_
  rintro _ m2 ⟨eq, v1, rfl, y1, y2⟩
  obtain rfl := eq.symm
  have z2 : (2 : Int32).toInt = 2 := rfl
  have z0 : (0 : Int32).toInt = 0 := rfl
  have no : ¬ SeP n q x1 x2 x3 → WT m1 ∧ Fx (RS [20, 39, 57]) m m1 ∧ ((¬ SeP n q x1 x2 x3 ∧ some (Value.int (-1)) = some (.int (-1)) ∧ m1 = m1) ∨ (SeP n q x1 x2 x3 ∧ some (Value.int (-1)) = some (.int (nI (q + 1))) ∧ m1.1 187 52 = nI (q + 1) ∧ (∀ k, k < 3 * q → m1.1 213 k = m.1 213 k) ∧ m1.1 213 (3 * q) = x1 ∧ m1.1 213 (3 * q + 1) = x2 ∧ m1.1 213 (3 * q + 2) = x3)) := fun h => ⟨w0, f0, Or.inl ⟨h, rfl, rfl⟩⟩
  refine ⟨v1, rfl, fun c => no (fun z => y1 c z.1), fun c => (inM (x := x3) (lo := 0) (hi := 2) rfl rfl).to ?_⟩
  rintro _ m2 ⟨eq, v2, rfl, y3, y4⟩
  obtain rfl := eq.symm
  refine ⟨v2, rfl, fun c2 => no (fun z => y3 c2 ⟨by have := z.2.1; omega, by have := z.2.2.1; omega⟩), fun c2 => ⟨fun c4 => ?_, fun c4 => no (fun z => ?_)⟩⟩
  · have k2 := y4 c2
    have k4 : q < 12 := by
      rw [hq0] at c4
      have : q ≠ 12 := fun z => c4 (by rw [z]; rfl)
      omega
    have P : SeP n q x1 x2 x3 := ⟨y2 c, by omega, by omega, k4⟩
    obtain ⟨p1, p2⟩ := (y2 c).1
    obtain ⟨p3, p4⟩ := (y2 c).2.1
    have go : ∀ m', m' = uI (uI (uI (uI m1 213 (3 * q) x1) 213 (3 * q + 1) x2) 213 (3 * q + 2) x3) 187 52 (nI (q + 1)) → WT m' ∧ Fx (RS [20, 39, 57]) m m' ∧ ((¬ SeP n q x1 x2 x3 ∧ some (Value.int (nI (q + 1))) = some (.int (-1)) ∧ m' = m1) ∨ (SeP n q x1 x2 x3 ∧ some (Value.int (nI (q + 1))) = some (.int (nI (q + 1))) ∧ m'.1 187 52 = nI (q + 1) ∧ (∀ k, k < 3 * q → m'.1 213 k = m.1 213 k) ∧ m'.1 213 (3 * q) = x1 ∧ m'.1 213 (3 * q + 1) = x2 ∧ m'.1 213 (3 * q + 2) = x3)) := fun m' e => by
      subst e
      have t1 : (nI (q + 1)).toInt = (q + 1 : Nat) := nI_toInt (by omega)
      have T0 : TY 213 (3 * q) = some (0, 7) := by
        show (if (3 * q) % 3 < 2 then _ else _) = _
        rw [if_pos (by omega)]
      have T1 : TY 213 (3 * q + 1) = some (0, 7) := by
        show (if (3 * q + 1) % 3 < 2 then _ else _) = _
        rw [if_pos (by omega)]
      have T2 : TY 213 (3 * q + 2) = none := by
        show (if (3 * q + 2) % 3 < 2 then _ else _) = _
        rw [if_neg (by omega)]
      refine ⟨(((w0.t T0 (by omega) (by omega)).t T1 (by omega) (by omega)).n T2).t rfl (by omega) (by omega), Fx.i (Fx.i (Fx.i (Fx.i f0 rfl) rfl) rfl) rfl, Or.inr ⟨P, rfl, u_eq, fun k hk => ?_, ?_, ?_, ?_⟩⟩
      · exact ((u_ne (by omega)).trans ((u_ne (by omega)).trans ((u_ne (by omega)).trans (u_ne (by omega))))).trans (h213 k)
      · exact (u_ne (by omega)).trans ((u_ne (by omega)).trans ((u_ne (by omega)).trans u_eq))
      · exact (u_ne (by omega)).trans ((u_ne (by omega)).trans u_eq)
      · exact (u_ne (by omega)).trans u_eq
    have key : ∀ y : Int32, y = nI q → vp_in ((3 : Int32) * y) 36 ∧ vp_in ((3 : Int32) * y + (1 : Int32)) 36 ∧ vp_in ((3 : Int32) * y + (2 : Int32)) 36 ∧ (fun (r : Option Value) (m' : Wm) => WT m' ∧ Fx (RS [20, 39, 57]) m m' ∧ ((¬ SeP n q x1 x2 x3 ∧ r = some (.int (-1)) ∧ m' = m1) ∨ (SeP n q x1 x2 x3 ∧ r = some (.int (nI (q + 1))) ∧ m'.1 187 52 = nI (q + 1) ∧ (∀ k, k < 3 * q → m'.1 213 k = m.1 213 k) ∧ m'.1 213 (3 * q) = x1 ∧ m'.1 213 (3 * q + 1) = x2 ∧ m'.1 213 (3 * q + 2) = x3))) (some (.int (y + (1 : Int32)))) (uI (uI (uI (uI m1 213 ((3 : Int32) * y).toNatClampNeg x1) 213 ((3 : Int32) * y + (1 : Int32)).toNatClampNeg x2) 213 ((3 : Int32) * y + (2 : Int32)).toNatClampNeg x3) 187 52 (y + (1 : Int32))) := fun y hy => by
      subst hy
      rw [l_mul 3 3 rfl, add_l 2 2 rfl, nI_1, nI_1, nI_clamp (by omega), nI_clamp (by omega), nI_clamp (by omega)]
      exact ⟨nat_in (by omega) (by decide), nat_in (by omega) (by decide), nat_in (by omega) (by decide), go _ rfl⟩
    exact key (m1.1 187 52) hq0
  · have k4 := z.2.2.2
    rw [hq0] at c4
    have := (nI_eq (a := q) (b := 12) (by omega) (by omega)).mp (Classical.not_not.mp (fun y => y c4))
    omega
theorem og_seen (c : Nat) (x1 x2 x3 : Int32) : Both ad d μX11_seen μX12_seen [.int x1, .int x2, .int x3] (InvK (KX KG c)) (InvK (KX KG (c + 1))) := fun m I => by
  have J := J17 I
  obtain ⟨w, I1, kg, kb⟩ := I
  obtain ⟨r1, r2, h33, h34, h52, hS, hW⟩ := I1
  obtain ⟨n, en, -, -, n8, -⟩ := w.nat (a := 3) (k := 3) rfl (by decide)
  obtain ⟨q, eq15, -, -, q12, -⟩ := w.nat (a := 0) (k := 15) rfl (by decide)
  refine (e_seenC (d := d + 298) (x1 := x1) (x2 := x2) (x3 := x3) w en (by omega) eq15 (by omega)).to ?_
  rintro _ m1 ⟨w1, f1, ⟨hP, rfl, eq⟩ | ⟨hP, rfl, a1, a2, a3, a4, a5⟩⟩
  · obtain rfl := eq.symm
    refine ⟨_, rfl, (e_seenM (d := d + 297) (x1 := x1) (x2 := x2) (x3 := x3) w (h33.symm.trans en) (by omega) (h52.symm.trans eq15) (by omega)).to ?_⟩
    rintro _ m2 ⟨w2, f2, ⟨hP2, rfl, rfl⟩ | ⟨hP2, -⟩⟩
    · exact ⟨rfl, J⟩
    · exact absurd hP2 hP
  · have e1 : m1.1 187 1 = nI n := (f1.at (nRS (ρ := 23) rfl rfl)).trans (h33.symm.trans en)
    have e52 : m1.1 187 52 = nI q := (f1.at (nRS (ρ := 39) rfl rfl)).trans (h52.symm.trans eq15)
    refine ⟨_, rfl, (e_seenM (d := d + 297) (x1 := x1) (x2 := x2) (x3 := x3) w1 e1 (by omega) e52 (by omega)).to ?_⟩
    rintro _ m2 ⟨w2, f2, ⟨hP2, -⟩ | ⟨-, rfl, b1, b2, b3, b4, b5⟩⟩
    · exact absurd hP hP2
    · have g33 : m2.1 3 3 = m.1 3 3 := (f2.at (nRS (ρ := 41) rfl rfl)).trans (f1.at (nRS (ρ := 41) rfl rfl))
      have g34 : m2.1 3 4 = m.1 3 4 := (f2.at (nRS (ρ := 41) rfl rfl)).trans (f1.at (nRS (ρ := 41) rfl rfl))
      have k33 : m2.1 187 1 = m.1 187 1 := (f2.at (nRS (ρ := 23) rfl rfl)).trans (f1.at (nRS (ρ := 23) rfl rfl))
      have k34 : m2.1 187 0 = m.1 187 0 := (f2.at (nRS (ρ := 23) rfl rfl)).trans (f1.at (nRS (ρ := 23) rfl rfl))
      have g15 : m2.1 0 15 = nI (q + 1) := (f2.at (nRS (ρ := 8) rfl rfl)).trans a1
      have q56 : ∀ b k, rg b k = 56 → m2.1 b k = m1.1 b k := fun b k e => f2.at (nRS (ρ := 56) rfl e)
      have q57 : ∀ k, m1.1 213 k = m.1 213 k := fun k => f1.at (nRS (ρ := 57) rfl rfl)
      refine ⟨rfl, w2, ⟨(r1.fx f1 rfl).fx f2 rfl, (r2.fx f1 rfl rfl).fx f2 rfl rfl, by rw [g33, k33]; exact h33, by rw [g34, k34]; exact h34, g15.trans b1.symm, fun i hi => ?_, (hW.fx f1 rfl).fx f2 rfl⟩, (kg.fx f1 rfl).fx f2 rfl, KB.fd c f1 f2 kb rfl rfl⟩
      rw [g15, nI_toInt (by omega)] at hi
      rw [g33, q56 146 i rfl, q56 147 i rfl, q56 148 i rfl]
      by_cases z : i = q
      · subst z
        obtain ⟨s, hs, rfl⟩ := hP.1.1.of
        obtain ⟨t, ht, rfl⟩ := hP.1.2.1.of
        rw [en, nI_toInt (by omega)]
        exact ⟨s, t, by omega, by omega, a3, a4, b3, b4, b5.trans a5.symm⟩
      · obtain ⟨s, t, s1, s2, s3, s4, s5, s6, s7⟩ := hS i (by rw [eq15, nI_toInt (by omega)]; omega)
        obtain ⟨o1, o2, o3⟩ := a2 i (by omega)
        exact ⟨s, t, s1, s2, o1.trans s3, o2.trans s4, (b2 _ (by omega)).trans ((q57 _).trans s5), (b2 _ (by omega)).trans ((q57 _).trans s6), (b2 _ (by omega)).trans ((q57 _).trans (s7.trans o3.symm))⟩
end SEE
/-! CALL: found, with its answers -/
/-- the pair that is in row i, and who won; does it show -/
abbrev SeT : Type := (Nat → Nat) × (Nat → Nat) × (Nat → Int32)
def foD (v : EV) (g : GS) (T : SeT) (i : Nat) : Bool := decide (¬ wnG v g (T.1 i) (T.2.1 i) 0 = T.2.2 i)
def foB (v : EV) (g : GS) (T : SeT) (q : Nat) (x : Int32) : Prop := ∀ j, j < 32 → bt x j = (decide (j < q) && foD v g T j)
theorem bz_32 : ∀ i, i < 32 → bt 0 i = false := by decide +kernel
theorem bs_32 : ∀ k, k < 12 → bt ((1 : Int32) <<< (nI k &&& 31)) 31 = false := by decide +kernel
theorem bt_1sh {j k : Nat} (hk : k < 12) (hj : j < 32) : bt ((1 : Int32) <<< (nI k &&& 31)) j = decide (j = k) := by
  by_cases h : j < 31
  · exact bt_1shl (by omega) h
  · obtain rfl : j = 31 := by omega
    rw [bs_32 k hk, decide_eq_false (by omega)]
section FND
variable {ad : Nat → Nat} {d q : Nat} {m m0 : Wm} {g : GS} {v : EV} {T : SeT}
def seC (T : SeT) (q : Nat) (m : Wm) : Prop := m.1 0 15 = nI q ∧ ∀ i, i < q → m.1 146 i = nI (T.1 i) ∧ m.1 147 i = nI (T.2.1 i) ∧ m.1 148 i = T.2.2 i
def seM (T : SeT) (q : Nat) (m : Wm) : Prop := m.1 187 52 = nI q ∧ ∀ i, i < q → m.1 213 (3 * i) = nI (T.1 i) ∧ m.1 213 (3 * i + 1) = nI (T.2.1 i) ∧ m.1 213 (3 * i + 2) = T.2.2 i
theorem seC.fx {S : List Nat} {m' : Wm} (h : seC T q m) (f : Fx (RS S) m m') (e8 : S.elem 8 = false) (e56 : S.elem 56 = false) : seC T q m' := ⟨(f.at (nRS (ρ := 8) e8 rfl)).trans h.1, fun i hi => ⟨(f.at (nRS (ρ := 56) e56 rfl)).trans (h.2 i hi).1, (f.at (nRS (ρ := 56) e56 rfl)).trans (h.2 i hi).2.1, (f.at (nRS (ρ := 56) e56 rfl)).trans (h.2 i hi).2.2⟩⟩
theorem seM.fx {S : List Nat} {m' : Wm} (h : seM T q m) (f : Fx (RS S) m m') (e39 : S.elem 39 = false) (e57 : S.elem 57 = false) : seM T q m' := ⟨(f.at (nRS (ρ := 39) e39 rfl)).trans h.1, fun i hi => ⟨(f.at (nRS (ρ := 57) e57 rfl)).trans (h.2 i hi).1, (f.at (nRS (ρ := 57) e57 rfl)).trans (h.2 i hi).2.1, (f.at (nRS (ρ := 57) e57 rfl)).trans (h.2 i hi).2.2⟩⟩
theorem se_of {n : Nat} (h : SeR m) (hn : m.1 3 3 = nI n) (n8 : n ≤ 8) (hq : m.1 0 15 = nI q) (q12 : q ≤ 12) (h52 : m.1 0 15 = m.1 187 52) : ∃ T, seC T q m ∧ seM T q m ∧ ∀ i, i < q → T.1 i < n ∧ T.2.1 i < n := by
  have k : ∀ i, i < q → (m.1 146 i).toNatClampNeg < n ∧ (m.1 147 i).toNatClampNeg < n ∧ m.1 146 i = nI (m.1 146 i).toNatClampNeg ∧ m.1 147 i = nI (m.1 147 i).toNatClampNeg ∧ m.1 213 (3 * i) = m.1 146 i ∧ m.1 213 (3 * i + 1) = m.1 147 i ∧ m.1 213 (3 * i + 2) = m.1 148 i := fun i hi => by
    obtain ⟨a, b, s1, s2, s3, s4, s5, s6, s7⟩ := h i (by rw [hq, nI_toInt (by omega)]; omega)
    rw [hn, nI_toInt (by omega)] at s1 s2
    rw [s3, s4, nI_clamp (by omega), nI_clamp (by omega)]
    exact ⟨by omega, by omega, rfl, rfl, s5, s6, s7⟩
  refine ⟨(fun i => (m.1 146 i).toNatClampNeg, fun i => (m.1 147 i).toNatClampNeg, fun i => m.1 148 i), ⟨hq, fun i hi => ⟨(k i hi).2.2.1, (k i hi).2.2.2.1, rfl⟩⟩, ⟨h52.symm.trans hq, fun i hi => ⟨(k i hi).2.2.2.2.1.trans (k i hi).2.2.1, (k i hi).2.2.2.2.2.1.trans (k i hi).2.2.2.1, (k i hi).2.2.2.2.2.2⟩⟩, fun i hi => ⟨(k i hi).1, (k i hi).2.1⟩⟩
theorem foB_p {x : Int32} {i : Nat} (h : foB v g T i x) (hD : foD v g T i = true) (hi : i < 12) : foB v g T (i + 1) (x ||| ((1 : Int32) <<< (nI i &&& 31))) := fun j hj => by
  rw [b_or, bt_1sh hi hj, h j hj]
  by_cases e : j = i
  · subst e
    rw [hD, decide_eq_true (show j = j from rfl), decide_eq_true (show j < j + 1 by omega), Bool.or_true]
    rfl
  · rw [decide_eq_false e, Bool.or_false]
    by_cases l : j < i
    · rw [decide_eq_true l, decide_eq_true (show j < i + 1 by omega)]
    · rw [decide_eq_false l, decide_eq_false (show ¬ j < i + 1 by omega)]
theorem foB_n {x : Int32} {i : Nat} (h : foB v g T i x) (hD : foD v g T i = false) : foB v g T (i + 1) x := fun j hj => by
  rw [h j hj]
  by_cases e : j = i
  · subst e
    rw [hD, Bool.and_false, Bool.and_false]
  · by_cases l : j < i
    · rw [decide_eq_true l, decide_eq_true (show j < i + 1 by omega)]
    · rw [decide_eq_false l, decide_eq_false (show ¬ j < i + 1 by omega)]
/-- once all are in, one more changes nothing -/
theorem foB_f {x : Int32} {i : Nat} (h : foB v g T q x) (hD : foD v g T i = true) (hi : i < q) (hq : q ≤ 12) : foB v g T q (x ||| ((1 : Int32) <<< (nI i &&& 31))) := fun j hj => by
  rw [b_or, bt_1sh (by omega) hj, h j hj]
  by_cases e : j = i
  · subst e
    rw [hD, decide_eq_true hi, decide_eq_true (show j = j from rfl)]
    rfl
  · rw [decide_eq_false e, Bool.or_false]
theorem foB_0 : foB v g T 0 0 := fun j hj => by
  rw [decide_eq_false (Nat.not_lt_zero j), Bool.false_and]
  exact bz_32 j hj
theorem foB_eq {x y : Int32} (h1 : foB v g T q x) (h2 : foB v g T q y) : x = y := b_ext (fun i hi => (h1 i hi).trans (h2 i hi).symm)
theorem foD_t {i : Nat} (h : ¬ wnG v g (T.1 i) (T.2.1 i) 0 = T.2.2 i) : foD v g T i = true := decide_eq_true h
theorem foD_f {i : Nat} (h : wnG v g (T.1 i) (T.2.1 i) 0 = T.2.2 i) : foD v g T i = false := decide_eq_false (fun z => z h)
def fcQ (v : EV) (g : GS) (T : SeT) (q : Nat) (m0 : Wm) (r : Option Value) (m' : Wm) : Prop := WT m' ∧ Fx (RS [9, 14]) m0 m' ∧ ∃ x : Int32, r = some (.int x) ∧ foB v g T q x
theorem fc_139 {x1 : Int32} {s : Nat} {z0 z1 : Int64} (hB : foB v g T q x1) (w : WT m) (f : Fx (RS [9, 14]) m0 m) (hs : s < 8) : AW ad E0 μX11_found (d + 5) (fcQ v g T q m0) 139 [(0, .ref (ad 0)), (1, .int x1), (2, .int (nI s))] [.long z0, .long z1, .ref (ad 0)] m := by
  refine g_X11_found_139 (d := d + 4) ⟨nat_in hs (by decide), (s_X11_tell__ w).to ?_⟩
  rintro _ m1 ⟨w1, f1, rfl⟩
  exact ⟨rfl, w1, f.tr f1 (RS_sub rfl), x1, rfl, hB⟩
theorem fc_87 {x1 : Int32} {n : Nat} (hB : foB v g T q x1) (n8 : n ≤ 8) (w : WT m) (f : Fx (RS [9, 14]) m0 m) (hn : m.1 3 3 = nI n) : ∀ (j k s : Nat), k + j = n → s < 8 → AW ad E0 μX11_found (d + 5) (fcQ v g T q m0) 87 [(0, .ref (ad 0)), (1, .int x1), (2, .int (nI s)), (3, .int (nI k))] [] m := by
  intro j
  induction j with
  | zero =>
    intro k s hk hs
    refine g_X11_found_87 (d := d + 4) ⟨fun _ => (s_J6_bitCount w).to ?_, fun c => absurd (by rw [hn]; exact (nI_leI (a := n) (b := k) (by omega) (by omega)).mpr (by omega)) c⟩
    rintro _ m1 ⟨w1, f1, v2, rfl⟩
    exact ⟨v2, rfl, fun _ => fc_139 hB w1 (f.tr f1 (RS_sub rfl)) hs, fun _ => fc_139 hB w1 (f.tr f1 (RS_sub rfl)) hs⟩
  | succ j ih =>
    intro k s hk hs
    refine g_X11_found_87 (d := d + 4) ⟨fun c => absurd (by rw [hn] at c; exact (nI_leI (a := n) (b := k) (by omega) (by omega)).mp c) (by omega), fun _ => ⟨nat_in (by omega) (by decide), nat_in hs (by decide), fun _ => ?_, fun _ => ?_⟩⟩
    · rw [nI_1]; exact ih (k + 1) s (by omega) hs
    · rw [nI_1]; exact ih (k + 1) k (by omega) (by omega)
theorem fc_25 (q12 : q ≤ 12) (hT : ∀ i, i < q → T.1 i < nE v ∧ T.2.1 i < nE v) : ∀ (j i : Nat) (x1 : Int32) (m : Wm), i + j = q → foB v g T i x1 → WT m → Fx (RS [9, 14]) m0 m → HC 21 m g → EC m v → seC T q m → AW ad E0 μX11_found (d + 5) (fcQ v g T q m0) 25 [(0, .ref (ad 0)), (1, .int x1), (2, .int (nI i))] [] m := by
  intro j
  induction j with
  | zero =>
    intro i x1 m hi hB w f hc ec hS
    obtain rfl : i = q := hi
    exact g_X11_found_25 (d := d + 4) ⟨fun _ => fc_87 hB ec.2.2.1 w f ec.1 (nE v) 0 0 (by omega) (by decide), fun c => absurd (by rw [hS.1]; exact (nI_leI (a := i) (b := i) (by omega) (by omega)).mpr (Nat.le_refl _)) c⟩
  | succ j ih =>
    intro i x1 m hi hB w f hc ec hS
    have n8 := ec.2.2.1
    obtain ⟨t1, t2⟩ := hT i (by omega)
    obtain ⟨s1, s2, s3⟩ := hS.2 i (by omega)
    have V : vp_in (nI i) 12 := nat_in (by omega) (by decide)
    refine g_X11_found_25 (d := d + 4) ⟨fun c => absurd (by rw [hS.1] at c; exact (nI_leI (a := q) (b := i) (by omega) (by omega)).mp c) (by omega), fun _ => ⟨V, V, ?_⟩⟩
    rw [nI_clamp (by omega), s1, s2]
    refine (resultC (d := d) SS_21 (Or.inr (Or.inl rfl)) w hc ec (a := T.1 i) (e := T.2.1 i) (by omega) (by omega) (th := 0) (Or.inl rfl)).to ?_
    rintro _ m1 ⟨w1, f1, rfl⟩
    have s3' : m1.1 148 i = T.2.2 i := (f1.at (nRS (ρ := 56) rfl rfl)).trans s3
    have F1 : Fx (RS [9, 14]) m0 m1 := f.tr f1 (RS_sub rfl)
    refine ⟨_, rfl, V, ?_⟩
    rw [s3', nI_1]
    refine ⟨fun c => ih (i + 1) x1 m1 (by omega) (foB_n hB (foD_f c)) w1 F1 (hc.fx SS_21 f1 rfl) (ec.fx f1 rfl) (hS.fx f1 rfl rfl), fun c => (s_X11_countThrowers w1 (by rw [nI_toInt (by omega)]; omega) (by rw [nI_toInt (by omega)]; omega)).to ?_⟩
    rintro _ m2 ⟨w2, f2, rfl⟩
    exact ⟨rfl, ih (i + 1) _ m2 (by omega) (foB_p hB (foD_t c) (by omega)) w2 (F1.tr f2 (RS_sub rfl)) ((hc.fx SS_21 f1 rfl).fx SS_21 f2 rfl) ((ec.fx f1 rfl).fx f2 rfl) ((hS.fx f1 rfl rfl).fx f2 rfl rfl)⟩
theorem e_foundC (q12 : q ≤ 12) (hT : ∀ i, i < q → T.1 i < nE v ∧ T.2.1 i < nE v) (w : WT m) (hc : HC 21 m g) (ec : EC m v) (hS : seC T q m) : Ct ad μX11_found (d + 5) [.ref (ad 0)] m (fcQ v g T q m) := by
  have L : ∀ (j k : Nat) (m1 : Wm), k + j = 8 → WT m1 → Fx (RS [9]) m m1 → AW ad E0 μX11_found (d + 5) (fcQ v g T q m) 2 [(0, .ref (ad 0)), (1, .int (nI k))] [] m1 := by
    intro j
    induction j with
    | zero =>
      intro k m1 hk w1 f1
      exact g_X11_found_2 (d := d + 4) ⟨fun _ => fc_25 (d := d) q12 hT q 0 0 m1 (by omega) foB_0 w1 (Fx.tr Fx.rf f1 (RS_sub rfl)) (hc.fx SS_21 f1 rfl) (ec.fx f1 rfl) (hS.fx f1 rfl rfl), fun c => absurd ((le_l 8 8 rfl (by decide) (by omega)).mpr (by omega)) c⟩
    | succ j ih =>
      intro k m1 hk w1 f1
      refine g_X11_found_2 (d := d + 4) ⟨fun c => absurd ((le_l 8 8 rfl (by decide) (by omega)).mp c) (by omega), fun _ => ⟨nat_in (by omega) (by decide), ?_⟩⟩
      rw [nI_1]
      exact ih (k + 1) _ (by omega) (w1.n rfl) (f1.i rfl)
  exact v_X11_found (d := d + 4) (L 8 0 m rfl w Fx.rf)
/-! the model -/
def fmQ (v : EV) (g : GS) (T : SeT) (q : Nat) (m0 : Wm) (r : Option Value) (m' : Wm) : Prop := WT m' ∧ Fx (RS [20, 22, 26, 28]) m0 m' ∧ ∃ x : Int32, r = some (.int x) ∧ foB v g T q x
def fmI (v : EV) (g : GS) (T : SeT) (q : Nat) (m0 m : Wm) : Prop := WT m ∧ Fx (RS [20, 22, 26, 28]) m0 m ∧ HM (nE v) m g ∧ EM m v ∧ seM T q m
/-- within a side's turn, i rows behind: the first side puts the bits in, the others find them there -/
def foS (v : EV) (g : GS) (T : SeT) (q s i : Nat) (x : Int32) : Prop := (s = 0 ∧ foB v g T i x) ∨ foB v g T q x
theorem fm_29 (q12 : q ≤ 12) (hT : ∀ i, i < q → T.1 i < nE v ∧ T.2.1 i < nE v) {s : Nat}
    (K : ∀ (m1 : Wm) (x1 x2 x3 : Int32), foB v g T q x1 → fmI v g T q m0 m1 → AW ad E0 μX12_found (d + 170) (fmQ v g T q m0) 14 [(0, .ref (ad 187)), (1, .int x1), (2, .int x2), (3, .int x3), (4, .int (nI (s + 1)))] [] m1) :
    ∀ (j i : Nat) (x1 x2 x3 x5 : Int32) (m : Wm), i + j = q → foS v g T q s i x1 → fmI v g T q m0 m → AW ad E0 μX12_found (d + 170) (fmQ v g T q m0) 29 [(0, .ref (ad 187)), (1, .int x1), (2, .int x2), (3, .int x3), (4, .int (nI s)), (5, .int x5), (6, .int (nI i))] [] m := by
  intro j
  induction j with
  | zero =>
    intro i x1 x2 x3 x5 m hi hB I
    obtain rfl : i = q := hi
    have hB' : foB v g T i x1 := hB.elim (fun z => z.2) id
    refine g_X12_found_29 (d := d + 169) ⟨fun _ => ?_, fun c => absurd (by rw [I.2.2.2.2.1]; exact (nI_leI (a := i) (b := i) (by omega) (by omega)).mpr (Nat.le_refl _)) c⟩
    rw [nI_1]
    exact ⟨fun _ => K m _ _ _ hB' I, fun _ => K m _ _ _ hB' I⟩
  | succ j ih =>
    intro i x1 x2 x3 x5 m hi hB I
    obtain ⟨w, f, hm, em, hS⟩ := I
    obtain ⟨t1, t2⟩ := hT i (by omega)
    obtain ⟨s1, s2, s3⟩ := hS.2 i (by omega)
    refine g_X12_found_29 (d := d + 169) ⟨fun c => absurd (by rw [hS.1] at c; exact (nI_leI (a := q) (b := i) (by omega) (by omega)).mp c) (by omega), fun _ => ?_⟩
    rw [l_mul 3 3 rfl, add_l 2 2 rfl, nI_1, nI_1, nI_clamp (by omega), nI_clamp (by omega), nI_clamp (by omega), s1, s2, s3]
    refine ⟨nat_in (by omega) (by decide), nat_in (by omega) (by decide), nat_in (by omega) (by decide), (winnerM (d := d) w hm em t1 t2).to ?_⟩
    rintro _ m1 ⟨w1, f1, rfl⟩
    have I1 : fmI v g T q m0 m1 := ⟨w1, f.tr f1 (RS_sub rfl), hm.fx f1 rfl rfl, em.fx f1 rfl, hS.fx f1 rfl rfl⟩
    refine ⟨_, rfl, fun c => ?_, fun c => ?_⟩
    · have hB1 : foS v g T q s (i + 1) (x1 ||| ((1 : Int32) <<< (nI i &&& 31))) := by
        rcases hB with ⟨z, h⟩ | h
        · exact Or.inl ⟨z, foB_p h (foD_t c) (by omega)⟩
        · exact Or.inr (foB_f h (foD_t c) (by omega) (by omega))
      have N : ∀ y5 : Int32, AW ad E0 μX12_found (d + 170) (fmQ v g T q m0) 29 [(0, .ref (ad 187)), (1, .int (x1 ||| ((1 : Int32) <<< (nI i &&& 31)))), (2, .int x2), (3, .int x3), (4, .int (nI s)), (5, .int y5), (6, .int (nI (i + 1)))] [] m1 := fun y5 => ih (i + 1) _ _ _ y5 m1 (by omega) hB1 I1
      have M : ∀ x8 x9 : Int32, AW ad E0 μX12_found (d + 170) (fmQ v g T q m0) 113 [(0, .ref (ad 187)), (1, .int (x1 ||| ((1 : Int32) <<< (nI i &&& 31)))), (2, .int x2), (3, .int x3), (4, .int (nI s)), (6, .int (nI i)), (8, .int x8), (9, .int x9)] [.int x5] m1 := fun x8 x9 => by
        refine g_X12_found_113 (d := d + 169) ?_
        rw [nI_1]
        exact ⟨fun _ => N _, fun _ => ⟨fun _ => N _, fun _ => N _⟩⟩
      exact ⟨fun _ => M _ _, fun _ => ⟨fun _ => N _, fun _ => M _ _⟩⟩
    · have hB1 : foS v g T q s (i + 1) x1 := by
        rcases hB with ⟨z, h⟩ | h
        · exact Or.inl ⟨z, foB_n h (foD_f c)⟩
        · exact Or.inr h
      exact ih (i + 1) _ _ _ _ m1 (by omega) hB1 I1
theorem fm_14 (q12 : q ≤ 12) (hT : ∀ i, i < q → T.1 i < nE v ∧ T.2.1 i < nE v) : ∀ (j s : Nat) (x1 x2 x3 : Int32) (m : Wm), s + j = nE v → (foB v g T q x1 ∨ (s = 0 ∧ x1 = 0)) → fmI v g T q m0 m → AW ad E0 μX12_found (d + 170) (fmQ v g T q m0) 14 [(0, .ref (ad 187)), (1, .int x1), (2, .int x2), (3, .int x3), (4, .int (nI s))] [] m := by
  intro j
  induction j with
  | zero =>
    intro s x1 x2 x3 m hs hB I
    obtain ⟨w, f, hm, em, hS⟩ := I
    have n8 := em.2.2.1
    have hB' : foB v g T q x1 := by
      rcases hB with h | ⟨z, rfl⟩
      · exact h
      · have q0 : q = 0 := Nat.eq_zero_of_not_pos (fun y => by have := (hT 0 y).1; omega)
        subst q0
        exact foB_0
    have w2 : WT (uI m 187 16 (0 : Int32)) := w.t rfl (by decide) (by decide)
    have e16 : ((uI m 187 16 (0 : Int32)).1 187 16).toInt = 0 := by
      rw [u_eq]
      rfl
    refine g_X12_found_14 (d := d + 169) ⟨fun _ => (v_bitCount).to ?_, fun c => absurd (by rw [em.1]; exact (nI_leI (a := nE v) (b := s) (by omega) (by omega)).mpr (by omega)) c⟩
    rintro _ m3 ⟨rfl, rfl⟩
    refine ⟨_, rfl, (s_X12_tell w2 (by omega)).to ?_⟩
    rintro _ m4 ⟨w4, f4, rfl, p4⟩
    have p4' : (m4.1 187 16).toInt = ((uI m 187 16 (0 : Int32)).1 187 16).toInt + 1 := p4
    refine ⟨rfl, (s_X12_tell w4 (by omega)).to ?_⟩
    rintro _ m5 ⟨w5, f5, rfl, p5⟩
    have p5' : (m5.1 187 16).toInt = (m4.1 187 16).toInt + 1 := p5
    refine ⟨rfl, (s_X12_tell w5 (by omega)).to ?_⟩
    rintro _ m6 ⟨w6, f6, rfl, -⟩
    exact ⟨rfl, w6, (((f.i rfl).tr f4 (RS_sub rfl)).tr f5 (RS_sub rfl)).tr f6 (RS_sub rfl), x1, rfl, hB'⟩
  | succ j ih =>
    intro s x1 x2 x3 m hs hB I
    have em := I.2.2.2.1
    have n8 := em.2.2.1
    have hB' : foS v g T q s 0 x1 := by
      rcases hB with h | ⟨z, rfl⟩
      · exact Or.inr h
      · exact Or.inl ⟨z, foB_0⟩
    exact g_X12_found_14 (d := d + 169) ⟨fun c => absurd (by rw [em.1] at c; exact (nI_leI (a := nE v) (b := s) (by omega) (by omega)).mp c) (by omega), fun _ => fm_29 (d := d) q12 hT (fun m1 y1 y2 y3 h1 J1 => ih (s + 1) y1 y2 y3 m1 (by omega) (Or.inl h1) J1) q 0 x1 x2 x3 0 m (by omega) hB' I⟩
theorem e_foundM (q12 : q ≤ 12) (hT : ∀ i, i < q → T.1 i < nE v ∧ T.2.1 i < nE v) (w : WT m) (hm : HM (nE v) m g) (em : EM m v) (hS : seM T q m) : Ct ad μX12_found (d + 170) [.ref (ad 187)] m (fmQ v g T q m) := by
  have f0 : Fx (RS [20, 22, 26, 28]) m (uI m 187 17 0) := Fx.rf.i rfl
  exact v_X12_found (d := d + 169) (fm_14 (d := d) q12 hT (nE v) 0 0 (-1) 0 _ (by omega) (Or.inr ⟨rfl, rfl⟩) ⟨w.n rfl, f0, hm, em, hS.fx f0 rfl rfl⟩)
theorem og_found (c : Nat) : Both ad d μX11_found μX12_found [] (InvK (KX KG c)) (InvK (KX KG (c + 1))) := fun m I => by
  obtain ⟨w, I1, ⟨g, v, H, kd⟩, kb⟩ := I
  have ec := kd.2.2.1
  have n8 := ec.2.2.1
  obtain ⟨q, eq15, -, -, q12, -⟩ := w.nat (a := 0) (k := 15) rfl (by decide)
  obtain ⟨T, hC, hM, hT⟩ := se_of I1.2.2.2.2.2.1 ec.1 n8 eq15 (by omega) I1.2.2.2.2.1
  refine (e_foundC (d := d + 295) (by omega) hT w kd.1 ec hC).to ?_
  rintro _ m1 ⟨w1, f1, x, rfl, hx⟩
  have kd1 := kd.fx f1 rfl
  refine ⟨x, rfl, (e_foundM (d := d + 130) (by omega) hT w1 kd1.2.1 kd1.2.2.2.1 (hM.fx f1 rfl rfl)).to ?_⟩
  rintro _ m2 ⟨w2, f2, y, rfl, hy⟩
  obtain rfl := foB_eq hx hy
  exact ⟨rfl, w2, I1.f2 f1 f2 rfl rfl, ⟨g, v, H, kd1.fx f2 rfl⟩, KB.fd c f1 f2 kb rfl rfl⟩
end FND
