/-! SHEETS, exactly -/
def cl7 (x : Int32) : Int32 := if 0 ≤ x then (if x ≤ 7 then x else 7) else 0
def shE (kind x : Int32) : Int32 := if kind = 0 then x.toInt8.toInt32 else if kind = 1 then x.toInt16.toInt32 else x
def shV (kind n f step : Int32) (s : Nat) : Int32 := if kind = 3 then 0 else if nI s < n then cl7 (shE kind (f + nI s * step)) else 0
def shS (V : Nat → Int32) : Nat → Int32
  | 0 => 0
  | k + 1 => shS V k + V k
def shG (a0 : Nat) (x1 x2 x3 : Int32) : Prop := (0 ≤ x1.toInt ∧ x1.toInt < a0) ∧ (0 ≤ x2.toInt ∧ x2.toInt ≤ 3) ∧ x3.toInt ≤ 8
/-- what a sheet answers; b: it is one -/
def shQ (n a0 : Nat) (x1 x2 x3 x4 x5 : Int32) (c a : Nat) (S : List Nat) (m : Wm) (r : Option Value) (m' : Wm) : Prop := WT m' ∧ Fx (RS S) m m' ∧
  ((¬ shG a0 x1 x2 x3 ∧ r = some (.int (-1)) ∧ m'.1 c = m.1 c) ∨ (shG a0 x1 x2 x3 ∧ x2.toInt ≠ 3 ∧ x3.toInt < 0 ∧ r = some (.int (-2)) ∧ m'.1 c = m.1 c) ∨
   (shG a0 x1 x2 x3 ∧ (x2.toInt = 3 ∨ 0 ≤ x3.toInt) ∧ r = some (.int (if x2 = 3 then -3 else shS (shV x2 x3 x4 x5) n)) ∧ ∀ k, m'.1 c k = if k < 4 * n ∧ k % 4 = a then shV x2 x3 x4 x5 (k / 4) else m.1 c k))
section SHT
variable {ad : Nat → Nat} {d : Nat} {m : Wm} {n a0 : Nat} {x1 x2 x3 x4 x5 : Int32}
theorem cl7_m (x : Int32) : (if (0 : Int32) < (if x < (7 : Int32) then x else (7 : Int32)) then (if x < (7 : Int32) then x else (7 : Int32)) else (0 : Int32)) = cl7 x := by
  have z7 : (7 : Int32).toInt = 7 := rfl
  have z0 : (0 : Int32).toInt = 0 := rfl
  unfold cl7
  by_cases h : x < 7
  · rw [if_pos h]
    have h7 := z_lt h
    by_cases h0 : 0 < x
    · have := z_lt h0
      rw [if_pos h0, if_pos ((fa_le _ _).mpr (by omega)), if_pos ((fa_le _ _).mpr (by omega))]
    · have := z_nlt h0
      rw [if_neg h0]
      by_cases h1 : 0 ≤ x
      · have := z_le h1
        rw [if_pos h1, if_pos ((fa_le _ _).mpr (by omega))]
        exact (fa_eq _ _).mpr (by omega)
      · rw [if_neg h1]
  · rw [if_neg h]
    have h7 := z_nlt h
    rw [if_pos (by decide), if_pos ((fa_le _ _).mpr (by omega))]
    by_cases h1 : x ≤ 7
    · have := z_le h1
      rw [if_pos h1]
      exact (fa_eq _ _).mpr (by omega)
    · rw [if_neg h1]
theorem e_has (hn : m.1 3 3 = nI n) (hn8 : n ≤ 8) {x : Int32} : Ct ad μX1_has d [.ref (ad 3), .int x] m (fun r m' => m' = m ∧ r = some (.int (if 0 ≤ x.toInt ∧ x.toInt < n then 1 else 0))) := by
  have tn' : (nI n).toInt = n := nI_toInt (by omega)
  refine v_X1_has ?_
  rw [hn]
  refine ⟨fun c => ⟨rfl, ?_⟩, fun c => ⟨fun c2 => ⟨rfl, ?_⟩, fun c2 => ⟨rfl, ?_⟩⟩⟩
  · have := y_ltr (n := 0) rfl c
    rw [if_neg (by omega)]
  · have := z_le c2
    rw [if_neg (by omega)]
  · have h1 := y_nltr (n := 0) rfl c
    have h2 := z_nle c2
    rw [if_pos (by omega)]
theorem e_knows (ha : m.1 3 4 = nI a0) (ha4 : a0 ≤ 4) {x : Int32} : Ct ad μX1_knows d [.ref (ad 3), .int x] m (fun r m' => m' = m ∧ r = some (.int (if 0 ≤ x.toInt ∧ x.toInt < a0 then 1 else 0))) := by
  have tn' : (nI a0).toInt = a0 := nI_toInt (by omega)
  refine v_X1_knows ?_
  rw [ha]
  refine ⟨fun c => ⟨rfl, ?_⟩, fun c => ⟨fun c2 => ⟨rfl, ?_⟩, fun c2 => ⟨rfl, ?_⟩⟩⟩
  · have := y_ltr (n := 0) rfl c
    rw [if_neg (by omega)]
  · have := z_le c2
    rw [if_neg (by omega)]
  · have h1 := y_nltr (n := 0) rfl c
    have h2 := z_nle c2
    rw [if_pos (by omega)]
theorem le1_iff {x : Int32} {n : Nat} (hn : n < 100) : (0 ≤ x ∧ x ≤ nI n - 1) ↔ (0 ≤ x.toInt ∧ x.toInt < n) := by
  have tn' : (nI n).toInt = n := nI_toInt (by omega)
  have z1 : (1 : Int32).toInt = 1 := rfl
  have z0 : (0 : Int32).toInt = 0 := rfl
  have e := ti_sub (x := nI n) (y := 1) (by omega)
  rw [fa_le, fa_le, z0, e, tn', z1]
  omega
theorem e_isSide (hn : m.1 187 1 = nI n) (hn8 : n ≤ 8) {x : Int32} : Ct ad μX12_isSide (d + 1) [.ref (ad 187), .int x] m (fun r m' => m' = m ∧ r = some (.int (if 0 ≤ x.toInt ∧ x.toInt < n then 1 else 0))) := by
  have h := isSide_ok (ad := ad) (d := d) (m := m) (x := x)
  rw [hn] at h
  refine h.to ?_
  rintro r m' ⟨e, e2⟩
  refine ⟨e, e2.trans ?_⟩
  by_cases hc : 0 ≤ x ∧ x ≤ nI n - 1
  · rw [if_pos hc, if_pos ((le1_iff (by omega)).mp hc)]
  · rw [if_neg hc, if_neg (fun q => hc ((le1_iff (by omega)).mpr q))]
theorem e_isArt (ha : m.1 187 0 = nI a0) (ha4 : a0 ≤ 4) {x : Int32} : Ct ad μX12_isArt (d + 1) [.ref (ad 187), .int x] m (fun r m' => m' = m ∧ r = some (.int (if 0 ≤ x.toInt ∧ x.toInt < a0 then 1 else 0))) := by
  have h := isArt_ok (ad := ad) (d := d) (m := m) (x := x)
  rw [ha] at h
  refine h.to ?_
  rintro r m' ⟨e, e2⟩
  refine ⟨e, e2.trans ?_⟩
  by_cases hc : 0 ≤ x ∧ x ≤ nI a0 - 1
  · rw [if_pos hc, if_pos ((le1_iff (by omega)).mp hc)]
  · rw [if_neg hc, if_neg (fun q => hc ((le1_iff (by omega)).mpr q))]
theorem e_entry {k x : Int32} : Ct ad μX11_entry d [.int k, .int x] m (fun r m' => m' = m ∧ r = some (.int (shE k x))) := by
  refine v_X11_entry ⟨fun c => ⟨fun c2 => ⟨rfl, ?_⟩, fun c2 => ⟨rfl, ?_⟩⟩, fun c => ⟨rfl, ?_⟩⟩
  · unfold shE; rw [if_neg c, if_neg c2]
  · unfold shE; rw [if_neg c, if_pos c2]
  · unfold shE; rw [if_pos c]
theorem e_clamp7 {x : Int32} : Ct ad μX11_clamp d [.int x, .int (0 : Int32), .int (7 : Int32)] m (fun r m' => m' = m ∧ r = some (.int (cl7 x))) := by
  refine v_X11_clamp ⟨fun c => ⟨fun c2 => ⟨rfl, ?_⟩, fun c2 => ⟨rfl, ?_⟩⟩, fun c => ⟨rfl, ?_⟩⟩
  · unfold cl7; rw [if_pos c, if_pos c2]
  · unfold cl7; rw [if_pos c, if_neg c2]
  · unfold cl7; rw [if_neg c]
/-- the skills while side s is next -/
def shM (V : Nat → Int32) (a s : Nat) (f f' : Nat → Int32) : Prop := ∀ k, f' k = if k < 4 * s ∧ k % 4 = a then V (k / 4) else f k
theorem shM_0 {V : Nat → Int32} {a : Nat} {f : Nat → Int32} : shM V a 0 f f := fun k => by rw [if_neg (by omega)]
theorem shM_s {V : Nat → Int32} {a s : Nat} {f : Nat → Int32} {m1 : Wm} {c : Nat} (h : shM V a s f (m1.1 c)) (ha : a < 4) : shM V a (s + 1) f ((uI m1 c (4 * s + a) (V s)).1 c) := fun k => by
  by_cases hk : k = 4 * s + a
  · subst hk
    rw [u_eq, if_pos (by omega), show (4 * s + a) / 4 = s by omega]
  · rw [u_ne (fun q => hk q.2), h k]
    by_cases hc : k < 4 * s ∧ k % 4 = a
    · rw [if_pos hc, if_pos (by omega)]
    · rw [if_neg hc, if_neg (by omega)]
theorem e_sheetC (w : WT m) (hn : m.1 3 3 = nI n) (hn8 : n ≤ 8) (ha : m.1 3 4 = nI a0) (ha4 : a0 ≤ 4) : Ct ad μX11_sheet (d + 1) [.ref (ad 0), .int x1, .int x2, .int x3, .int x4, .int x5] m (fun r m' => shQ n a0 x1 x2 x3 x4 x5 22 x1.toNatClampNeg [4, 53] m r m' ∧ (shG a0 x1 x2 x3 ∧ (x2.toInt = 3 ∨ 0 ≤ x3.toInt) → m'.1 31 1 = 0) ∧ (¬ (shG a0 x1 x2 x3 ∧ (x2.toInt = 3 ∨ 0 ≤ x3.toInt)) → m' = m) ∧ ∀ b k, b ≠ 22 → b ≠ 31 → m'.1 b k = m.1 b k) := by
  generalize hQ : (fun (r : Option Value) (m' : Wm) => shQ n a0 x1 x2 x3 x4 x5 22 x1.toNatClampNeg [4, 53] m r m' ∧ (shG a0 x1 x2 x3 ∧ (x2.toInt = 3 ∨ 0 ≤ x3.toInt) → m'.1 31 1 = 0) ∧ (¬ (shG a0 x1 x2 x3 ∧ (x2.toInt = 3 ∨ 0 ≤ x3.toInt)) → m' = m) ∧ ∀ b k, b ≠ 22 → b ≠ 31 → m'.1 b k = m.1 b k) = Q
  have bad : ¬ shG a0 x1 x2 x3 → Q (some (.int (-1))) m := fun h => by
    rw [← hQ]
    exact ⟨⟨w, Fx.rf, Or.inl ⟨h, rfl, rfl⟩⟩, fun q => absurd q.1 h, fun _ => rfl, fun _ _ _ _ => rfl⟩
  refine v_X11_sheet ((e_knows ha ha4).to ?_)
  rintro _ m' ⟨eq, rfl⟩
  obtain rfl := eq.symm
  by_cases hk : 0 ≤ x1.toInt ∧ x1.toInt < a0
  · refine ⟨1, by rw [if_pos hk], fun z => absurd z (by decide), fun _ => ⟨fun c => bad (fun z => ?_), fun c => ⟨fun c2 => bad (fun z => ?_), fun c2 => ⟨fun c3 => ?_, fun c3 => bad (fun z => ?_)⟩⟩⟩⟩
    · have := y_ltr (n := 0) rfl c; have := z.2.1; omega
    · have := y_ltl (n := 3) rfl c2; have := z.2.1; omega
    · have k2a := y_nltr (n := 0) rfl c
      have k2b := y_nltl (n := 3) rfl c2
      have k3 := y_ler (n := 8) rfl c3
      have G : shG a0 x1 x2 x3 := ⟨hk, ⟨k2a, k2b⟩, k3⟩
      obtain ⟨a, ha2, ea⟩ := zn_of hk.1
      have ta : x1.toInt = a := by rw [ea, nI_toInt ha2]
      have ca : x1.toNatClampNeg = a := by rw [ea, nI_clamp ha2]
      have ha44 : a < 4 := by omega
      have L : ∀ (s0 : Int32), (s0 = if x2 = 3 then 1 else 0) → (x2.toInt = 3 ∨ 0 ≤ x3.toInt) → ∀ (j s : Nat) (m1 : Wm), s + j = n → WT m1 → Fx (RS [4, 53]) m m1 → (∀ b k, b ≠ 22 → b ≠ 31 → m1.1 b k = m.1 b k) → shM (shV x2 x3 x4 x5) a s (m.1 22) (m1.1 22) →
          AW ad E0 μX11_sheet (d + 1) Q 58 [(0, .ref (ad 0)), (1, .int x1), (2, .int x2), (3, .int x3), (4, .int x4), (5, .int x5), (6, .int s0), (7, .int (shS (shV x2 x3 x4 x5) s)), (8, .int (nI s))] [] m1 := by
        intro s0 hs0 hok j
        induction j with
        | zero =>
          intro s m1 hs w1 f1 hb hM
          obtain rfl : s = n := hs
          have e33 : m1.1 3 3 = nI s := (f1.at (a := 3) (k := 3) (by decide)).trans hn
          have fin : ∀ r, r = some (Value.int (if x2 = 3 then -3 else shS (shV x2 x3 x4 x5) s)) → Q r (uI m1 31 1 0) := fun r hr => by
            rw [← hQ]
            refine ⟨⟨w1.t rfl (by decide) (by decide), f1.i rfl, Or.inr (Or.inr ⟨G, hok, hr, fun k => ?_⟩)⟩, fun _ => rfl, fun z => absurd ⟨G, hok⟩ z, fun b k h1 h2 => (u_ne (fun q => h2 q.1)).trans (hb b k h1 h2)⟩
            rw [ca]
            exact (u_ne (by omega)).trans (hM k)
          refine g_X11_sheet_58 ⟨fun _ => ⟨fun c0 => fin _ ?_, fun c0 => fin _ ?_⟩, fun z => absurd (by rw [e33]; exact (nI_leI (by omega) (by omega)).mpr (Nat.le_refl _)) z⟩
          · by_cases h3 : x2 = 3
            · rw [hs0, if_pos h3] at c0; exact absurd c0 (by decide)
            · rw [if_neg h3]
          · by_cases h3 : x2 = 3
            · rw [if_pos h3]
            · rw [hs0, if_neg h3] at c0; exact absurd rfl c0
        | succ j ih =>
          intro s m1 hs w1 f1 hb hM
          have e33 : m1.1 3 3 = nI n := (f1.at (a := 3) (k := 3) (by decide)).trans hn
          have put : ∀ v, v = shV x2 x3 x4 x5 s → AW ad E0 μX11_sheet (d + 1) Q 103 [(0, .ref (ad 0)), (1, .int x1), (2, .int x2), (3, .int x3), (4, .int x4), (5, .int x5), (6, .int s0), (7, .int (shS (shV x2 x3 x4 x5) s)), (8, .int (nI s))] [.int v] m1 := fun v hv => by
            subst hv
            refine g_X11_sheet_103 ((e_putS (i := 4 * s + a) St_21 (by rw [mul_l 4 4 rfl, ea, nI_add, Nat.mul_comm s 4]) (by omega)).to ?_)
            rintro _ m2 ⟨rfl, e⟩
            subst e
            refine ⟨rfl, ?_⟩
            rw [nI_1]
            exact ih (s + 1) _ (by omega) (w1.n rfl) (f1.i rfl) (fun b k h1 h2 => (u_ne (fun q => h1 q.1)).trans (hb b k h1 h2)) (shM_s (c := 22) hM ha44)
          refine g_X11_sheet_58 ⟨fun z => absurd (by rw [e33] at z; exact (nI_leI (by omega) (by omega)).mp z) (by omega), fun _ => ⟨fun c0 => put _ ?_, fun c0 => ⟨fun cs => e_entry.to ?_, fun cs => put _ ?_⟩⟩⟩
          · have h3 : x2 = 3 := by
              by_cases h3 : x2 = 3
              · exact h3
              · rw [hs0, if_neg h3] at c0; exact absurd rfl c0
            unfold shV; rw [if_pos h3]
          · have h3 : ¬ x2 = 3 := fun h3 => by rw [hs0, if_pos h3] at c0; exact absurd c0 (by decide)
            rintro _ m' ⟨eq, rfl⟩
            obtain rfl := eq.symm
            refine ⟨_, rfl, e_clamp7.to ?_⟩
            rintro _ m' ⟨eq, rfl⟩
            obtain rfl := eq.symm
            refine ⟨_, rfl, put _ ?_⟩
            unfold shV; rw [if_neg h3, if_pos cs]
          · have h3 : ¬ x2 = 3 := fun h3 => by rw [hs0, if_pos h3] at c0; exact absurd c0 (by decide)
            unfold shV; rw [if_neg h3, if_neg cs]
      have two : x2.toInt ≠ 3 → x3.toInt < 0 → Q (some (.int (-2))) m := fun h3 h4 => by
        rw [← hQ]
        exact ⟨⟨w, Fx.rf, Or.inr (Or.inl ⟨G, h3, h4, rfl, rfl⟩)⟩, fun q => absurd q.2 (by omega), fun _ => rfl, fun _ _ _ _ => rfl⟩
      refine ⟨fun c4 => ?_, fun c4 => ?_⟩
      · refine g_X11_sheet_38 ⟨fun c5 => L 0 (by rw [if_neg c4]) (Or.inr (y_lel (n := 0) rfl c5)) n 0 m (by omega) w Fx.rf (fun _ _ _ _ => rfl) shM_0, fun c5 => ⟨fun z => absurd rfl z, fun _ => two (y_ner (n := 3) rfl c4) (y_nlel (n := 0) rfl c5)⟩⟩
      · have t3 : x2.toInt = 3 := y_eqr (n := 3) rfl c4
        refine g_X11_sheet_38 ⟨fun c5 => L 1 (by rw [if_pos c4]) (Or.inl t3) n 0 m (by omega) w Fx.rf (fun _ _ _ _ => rfl) shM_0, fun c5 => ⟨fun _ => L 1 (by rw [if_pos c4]) (Or.inl t3) n 0 m (by omega) w Fx.rf (fun _ _ _ _ => rfl) shM_0, fun z => absurd z (by decide)⟩⟩
    · have := y_nler (n := 8) rfl c3; have := z.2.2; omega
  · exact ⟨0, by rw [if_neg hk], fun _ => bad (fun z => hk z.1), fun z => absurd rfl z⟩
theorem step_s (f step : Int32) (s : Nat) : f + nI s * step + step = f + nI (s + 1) * step := by
  rw [← nI_1 s, Int32.add_mul, Int32.one_mul, Int32.add_assoc]
theorem e_sheetM (w : WT m) (hn : m.1 187 1 = nI n) (hn8 : n ≤ 8) (ha : m.1 187 0 = nI a0) (ha4 : a0 ≤ 4) : Ct ad μX12_sheet (d + 2) [.ref (ad 187), .int x1, .int x2, .int x3, .int x4, .int x5] m (fun r m' => shQ n a0 x1 x2 x3 x4 x5 188 x1.toNatClampNeg [20, 24, 29] m r m' ∧ (shG a0 x1 x2 x3 ∧ (x2.toInt = 3 ∨ 0 ≤ x3.toInt) → m'.1 187 30 = 0) ∧ (¬ (shG a0 x1 x2 x3 ∧ (x2.toInt = 3 ∨ 0 ≤ x3.toInt)) → Fx (RS [20]) m m') ∧ ∀ b k, b ≠ 187 → b ≠ 188 → m'.1 b k = m.1 b k) := by
  generalize hQ : (fun (r : Option Value) (m' : Wm) => shQ n a0 x1 x2 x3 x4 x5 188 x1.toNatClampNeg [20, 24, 29] m r m' ∧ (shG a0 x1 x2 x3 ∧ (x2.toInt = 3 ∨ 0 ≤ x3.toInt) → m'.1 187 30 = 0) ∧ (¬ (shG a0 x1 x2 x3 ∧ (x2.toInt = 3 ∨ 0 ≤ x3.toInt)) → Fx (RS [20]) m m') ∧ ∀ b k, b ≠ 187 → b ≠ 188 → m'.1 b k = m.1 b k) = Q
  have w0 : WT (uI m 187 17 0) := w.n rfl
  have hn0 : (uI m 187 17 0).1 187 1 = nI n := hn
  have ha0 : (uI m 187 17 0).1 187 0 = nI a0 := ha
  have f0 : Fx (RS [20, 24, 29]) m (uI m 187 17 0) := Fx.rf.i rfl
  have bad : ¬ shG a0 x1 x2 x3 → Q (some (.int (-1))) (uI m 187 17 0) := fun h => by
    rw [← hQ]
    exact ⟨⟨w0, f0, Or.inl ⟨h, rfl, rfl⟩⟩, fun q => absurd q.1 h, fun _ => Fx.rf.i rfl, fun b k h1 _ => u_ne (fun q => h1 q.1)⟩
  have two : shG a0 x1 x2 x3 → x2.toInt ≠ 3 → x3.toInt < 0 → Q (some (.int (-2))) (uI m 187 17 0) := fun G h3 h4 => by
    rw [← hQ]
    exact ⟨⟨w0, f0, Or.inr (Or.inl ⟨G, h3, h4, rfl, rfl⟩)⟩, fun q => absurd q.2 (by omega), fun _ => Fx.rf.i rfl, fun b k h1 _ => u_ne (fun q => h1 q.1)⟩
  have L : shG a0 x1 x2 x3 → (x2.toInt = 3 ∨ 0 ≤ x3.toInt) → ∀ (j s : Nat) (m1 : Wm), s + j = n → WT m1 → Fx (RS [20, 24, 29]) m m1 → (∀ b k, b ≠ 187 → b ≠ 188 → m1.1 b k = m.1 b k) → shM (shV x2 x3 x4 x5) x1.toNatClampNeg s (m.1 188) (m1.1 188) →
      AW ad E0 μX12_sheet (d + 2) Q 55 [(0, .ref (ad 187)), (1, .int x1), (2, .int x2), (3, .int x3), (5, .int x5), (6, .int (shS (shV x2 x3 x4 x5) s)), (7, .int (x4 + nI s * x5)), (8, .int (nI s))] [] m1 := by
    intro G hok j
    obtain ⟨a, ha2, ea⟩ := zn_of G.1.1
    have ta : x1.toInt = a := by rw [ea, nI_toInt ha2]
    have ca : x1.toNatClampNeg = a := by rw [ea, nI_clamp ha2]
    have hG := G.1
    have ha44 : a < 4 := by omega
    rw [ca]
    induction j with
    | zero =>
      intro s m1 hs w1 f1 hb hM
      obtain rfl : s = n := hs
      have e33 : m1.1 187 1 = nI s := (f1.at (a := 187) (k := 1) (by decide)).trans hn
      have fin : ∀ r, r = some (Value.int (if x2 = 3 then -3 else shS (shV x2 x3 x4 x5) s)) → Q r (uI m1 187 30 0) := fun r hr => by
        rw [← hQ]
        refine ⟨⟨w1.t rfl (by decide) (by decide), f1.i rfl, Or.inr (Or.inr ⟨G, hok, hr, fun k => ?_⟩)⟩, fun _ => rfl, fun z => absurd ⟨G, hok⟩ z, fun b k h1 h2 => (u_ne (fun q => h1 q.1)).trans (hb b k h1 h2)⟩
        rw [ca]
        exact (u_ne (by omega)).trans (hM k)
      refine g_X12_sheet_55 ⟨fun _ => ⟨fun c0 => fin _ (by rw [if_neg c0]), fun c0 => fin _ (by rw [if_pos c0])⟩, fun z => absurd (by rw [e33]; exact (nI_leI (by omega) (by omega)).mpr (Nat.le_refl _)) z⟩
    | succ j ih =>
      intro s m1 hs w1 f1 hb hM
      have e33 : m1.1 187 1 = nI n := (f1.at (a := 187) (k := 1) (by decide)).trans hn
      have put : ∀ v, v = shV x2 x3 x4 x5 s → AW ad E0 μX12_sheet (d + 2) Q 125 [(0, .ref (ad 187)), (1, .int x1), (2, .int x2), (3, .int x3), (5, .int x5), (6, .int (shS (shV x2 x3 x4 x5) s)), (7, .int (x4 + nI s * x5)), (8, .int (nI s))] [.int v, .int ((4 : Int32) * nI s + x1), .ref (ad 188)] m1 := fun v hv => by
        subst hv
        have e4 : (4 : Int32) * nI s + x1 = nI (4 * s + a) := by rw [l_mul 4 4 rfl, ea, nI_add]
        rw [e4]
        refine g_X12_sheet_125 (ne2 := 32) ly_188 ⟨nat_in (by omega) (by decide), ?_⟩
        rw [e4, nI_clamp (by omega), u_eq, nI_1, step_s]
        exact ⟨nat_in (by omega) (by decide), ih (s + 1) _ (by omega) (w1.n rfl) (f1.i rfl) (fun b k h1 h2 => (u_ne (fun q => h2 q.1)).trans (hb b k h1 h2)) (shM_s (c := 188) hM ha44)⟩
      have L87 : ∀ s0, s0 = shE x2 (x4 + nI s * x5) → AW ad E0 μX12_sheet (d + 2) Q 87 [(0, .ref (ad 187)), (1, .int x1), (2, .int x2), (3, .int x3), (5, .int x5), (6, .int (shS (shV x2 x3 x4 x5) s)), (7, .int (x4 + nI s * x5)), (8, .int (nI s))] [.int s0] m1 := fun s0 hs0 => by
        subst hs0
        refine g_X12_sheet_87 ⟨fun h3 => put _ ?_, fun h3 => ⟨fun cs => put _ ?_, fun cs => put _ ?_⟩⟩
        · unfold shV; rw [if_pos h3]
        · unfold shV; rw [if_neg h3, if_pos cs, cl7_m]
        · unfold shV; rw [if_neg h3, if_neg cs]
      refine g_X12_sheet_55 ⟨fun z => absurd (by rw [e33] at z; exact (nI_leI (by omega) (by omega)).mp z) (by omega), fun _ => ⟨fun c0 => ⟨fun c1 => L87 _ ?_, fun c1 => L87 _ ?_⟩, fun c0 => L87 _ ?_⟩⟩
      · unfold shE; rw [if_neg c0, if_neg c1]
      · unfold shE; rw [if_neg c0, if_pos c1]
      · unfold shE; rw [if_pos c0]
  have st : x4 = x4 + nI 0 * x5 := by rw [nI_0, Int32.zero_mul, Int32.add_zero]
  have hQ2 : ∀ b k, b ≠ 187 → b ≠ 188 → (uI m 187 17 0).1 b k = m.1 b k := fun b k h1 _ => u_ne (fun q => h1 q.1)
  refine v_X12_sheet ((e_isArt (d := d) ha0 ha4).to ?_)
  rintro _ m' ⟨eq, rfl⟩
  obtain rfl := eq.symm
  by_cases hk : 0 ≤ x1.toInt ∧ x1.toInt < a0
  · refine ⟨1, by rw [if_pos hk], fun z => absurd z (by decide), fun _ => (in_i (lo := 0) (hi := 3) rfl rfl).to ?_⟩
    rintro _ m' ⟨eq, rfl⟩
    obtain rfl := eq.symm
    by_cases h2 : (0 : Int32) ≤ x2 ∧ x2 ≤ 3
    · have k2a := y_lel (n := 0) rfl h2.1
      have k2b := y_ler (n := 3) rfl h2.2
      refine ⟨1, by rw [if_pos h2], fun z => absurd z (by decide), fun _ => ⟨fun c3 => ?_, fun c3 => bad (fun z => ?_)⟩⟩
      · have k3 := y_ler (n := 8) rfl c3
        have G : shG a0 x1 x2 x3 := ⟨hk, ⟨k2a, k2b⟩, k3⟩
        have go : (x2.toInt = 3 ∨ 0 ≤ x3.toInt) → AW ad E0 μX12_sheet (d + 2) Q 55 [(0, .ref (ad 187)), (1, .int x1), (2, .int x2), (3, .int x3), (5, .int x5), (6, .int (0 : Int32)), (7, .int x4), (8, .int (0 : Int32))] [] (uI m 187 17 0) := fun hok => by
          have := L G hok n 0 (uI m 187 17 0) (by omega) w0 f0 hQ2 shM_0
          rw [← st] at this
          exact this
        refine ⟨fun c4 => go (Or.inl (by have := y_lel (n := 3) rfl c4; omega)), fun c4 => ⟨fun c5 => go (Or.inr (y_lel (n := 0) rfl c5)), fun c5 => two G ?_ (y_nlel (n := 0) rfl c5)⟩⟩
        have := y_nlel (n := 3) rfl c4; omega
      · have := y_nler (n := 8) rfl c3; have := z.2.2; omega
    · refine ⟨0, by rw [if_neg h2], fun _ => bad (fun z => h2 ⟨(fa_le _ _).mpr ?_, (fa_le _ _).mpr ?_⟩), fun z => absurd rfl z⟩
      · have z0 : (0 : Int32).toInt = 0 := rfl
        have := z.2.1; omega
      · have z3 : (3 : Int32).toInt = 3 := rfl
        have := z.2.1; omega
  · exact ⟨0, by rw [if_neg hk], fun _ => bad (fun z => hk z.1), fun z => absurd rfl z⟩
end SHT
