/-! THE TEXT: what the class holds as chars, the model holds as bytes -/
def CH (c b : Int32) : Prop := (0 ≤ b.toInt ∧ b.toInt ≤ 127 ∧ c = b) ∨ (b.toInt < 0 ∧ 128 ≤ c.toInt ∧ c.toInt ≤ 255)
theorem ch_of {x s1 s2 : Int32} {k : Nat} (h1 : ((s1.toUInt32 &&& Int32.toUInt32 31).toBitVec % 32).toNat = k) (h2 : (s2.toBitVec.smod 32).toNat = k) (hk : k = 0 ∨ k = 8 ∨ k = 16 ∨ k = 24) :
    CH (vp_nar .char ((((x.toUInt32 >>> (s1.toUInt32 &&& Int32.toUInt32 31)).toInt32 &&& (255 : Int32)).toUInt32 % 65536).toInt32)) (vp_nar .byte ((x >>> s2).toInt8.toInt32)) := by
  rw [pk_vb, pk_vc]
  obtain ⟨n, hn, rfl⟩ := wb_of32 x
  have e1 : ((nI n).toUInt32 >>> (s1.toUInt32 &&& Int32.toUInt32 31)).toInt32 = nI (n / 2 ^ k) := pk_ushrN hn s1 k h1
  rw [e1, show (255 : Int32) = nI (2 ^ 8 - 1) from rfl, fa_mask]
  have hc : n / 2 ^ k % 2 ^ 8 < 256 := Nat.mod_lt _ (by decide)
  have e2 : ((nI (n / 2 ^ k % 2 ^ 8)).toUInt32 % 65536).toInt32 = nI (n / 2 ^ k % 2 ^ 8) := by
    generalize n / 2 ^ k % 2 ^ 8 = q at hc
    have h3 : ∀ q : Fin 256, ((nI q.val).toUInt32 % 65536).toInt32 = nI q.val := by decide +kernel
    exact h3 ⟨q, hc⟩
  rw [e2]
  have e3 : ((nI n >>> s2).toInt8.toInt32).toInt = ((nI n).toInt >>> k).bmod (2 ^ 8) := by rw [Int8.toInt_toInt32, Int32.toInt_toInt8, pk_shr _ _ k h2]
  have e4 : (nI (n / 2 ^ k % 2 ^ 8)).toInt = ((n / 2 ^ k % 2 ^ 8 : Nat) : Int) := nI_toInt (by omega)
  have e5 : (nI n).toInt = (n : Int) ∨ (nI n).toInt = (n : Int) - 4294967296 := by
    by_cases h : n < 2147483648
    · exact Or.inl (nI_toInt h)
    · refine Or.inr ?_
      have h5 : (nI n).toInt = (n : Int).bmod (2 ^ 32) := Int32.toInt_ofNat'
      rw [h5, Int.bmod_def]
      rw [if_neg (by omega)]
      omega
  have e6 : ((nI n >>> s2).toInt8.toInt32).toInt = if ((n / 2 ^ k % 2 ^ 8 : Nat) : Int) < 128 then ((n / 2 ^ k % 2 ^ 8 : Nat) : Int) else ((n / 2 ^ k % 2 ^ 8 : Nat) : Int) - 256 := by
    rw [e3, Int.shiftRight_eq_div_pow, Int.bmod_def]
    have e7 : ((nI n).toInt / ((2 ^ k : Nat) : Int)) % ((2 ^ 8 : Nat) : Int) = ((n / 2 ^ k % 2 ^ 8 : Nat) : Int) := by
      rcases hk with rfl | rfl | rfl | rfl <;> rcases e5 with e | e <;> rw [e] <;> omega
    rw [e7]
    rfl
  generalize n / 2 ^ k % 2 ^ 8 = q at hc e4 e6
  generalize (nI n >>> s2).toInt8.toInt32 = b at e6
  by_cases hq : q < 128
  · rw [if_pos (by omega)] at e6
    exact Or.inl ⟨by omega, by omega, (fa_eq _ _).mpr (by omega)⟩
  · rw [if_neg (by omega)] at e6
    exact Or.inr ⟨by omega, by omega, by omega⟩
/-- a sign of the text is the same small number on both sides, or none on both -/
theorem CH.eq {c b t : Int32} (h : CH c b) (h0 : 0 ≤ t.toInt) (h1 : t.toInt ≤ 127) : c = t ↔ b = t := by
  rw [fa_eq, fa_eq b t]
  rcases h with ⟨a1, a2, rfl⟩ | ⟨a1, a2, a3⟩
  · exact Iff.rfl
  · constructor <;> intro q <;> omega
theorem CH.sb {c b t : Int32} (h : CH c b) (h0 : t.toInt = 48) (lo hi : Int) (hl : 0 ≤ lo) (hh : hi ≤ 50) : (lo ≤ (c - t).toInt ∧ (c - t).toInt ≤ hi) ↔ (lo ≤ (b - t).toInt ∧ (b - t).toInt ≤ hi) := by
  rcases h with ⟨a1, a2, rfl⟩ | ⟨a1, a2, a3⟩
  · exact Iff.rfl
  · have r := fb_rng b
    have e1 : (c - t).toInt = c.toInt - 48 := by rw [← h0]; exact ti_sub (by omega)
    have e2 : (b - t).toInt = b.toInt - 48 ∨ (b - t).toInt = b.toInt - 48 + 4294967296 := by
      rw [Int32.toInt_sub, h0, Int.bmod_def]
      by_cases hb : -2147483600 ≤ b.toInt
      · left; omega
      · right; omega
    constructor
    · intro q; omega
    · intro q; omega
theorem u_ne {m : Wm} {a k b j : Nat} {v : Int32} (h : ¬ (b = a ∧ j = k)) : (uI m a k v).1 b j = m.1 b j := if_neg h
theorem u_eq {m : Wm} {a k : Nat} {v : Int32} : (uI m a k v).1 a k = v := if_pos ⟨rfl, rfl⟩
section TXS
variable {ad : Nat → Nat} {d : Nat} {m : Wm}
def CHR (x : Int32) (k : Nat) : Int32 := vp_nar .char (((((x.toUInt32 >>> (((24 : Int32) - ((8 : Int32) * nI k)).toUInt32 &&& Int32.toUInt32 31)).toInt32) &&& (255 : Int32)).toUInt32 % 65536).toInt32)
def BYR (x : Int32) (k : Nat) : Int32 := vp_nar .byte ((x >>> (((8 : Int32) * (3 - nI k)) &&& 31)).toInt8.toInt32)
theorem ch_k (x : Int32) {k : Nat} (hk : k < 4) : CH (CHR x k) (BYR x k) := by
  have h1 : ∀ k : Fin 4, (((((24 : Int32) - ((8 : Int32) * nI k.val))).toUInt32 &&& Int32.toUInt32 31).toBitVec % 32).toNat = 24 - 8 * k.val := by decide +kernel
  have h2 : ∀ k : Fin 4, ((((8 : Int32) * (3 - nI k.val)) &&& 31).toBitVec.smod 32).toNat = 24 - 8 * k.val := by decide +kernel
  exact ch_of (h1 ⟨k, hk⟩) (h2 ⟨k, hk⟩) (by show 24 - 8 * k = 0 ∨ 24 - 8 * k = 8 ∨ 24 - 8 * k = 16 ∨ 24 - 8 * k = 24; omega)
theorem e_add {n : Nat} {x : Int32} (w : WT m) (hn : m.1 1 1 = nI n) (hn76 : n ≤ 76) : Ct ad μX10_add d [.ref (ad 1), .int x] m (fun r m' => r = some (.int 1) ∧ m'.1 1 1 = nI (n + 4) ∧ (∀ k, k < n → m'.1 2 k = m.1 2 k) ∧ (∀ k, k < 4 → m'.1 2 (n + k) = CHR x k) ∧ WT m' ∧ Fx (RS [0]) m m') := by
  have L : ∀ (j i : Nat) (m1 : Wm), i + j = 4 → m1.1 1 1 = nI (n + i) → (∀ k, k < n → m1.1 2 k = m.1 2 k) → (∀ k, k < i → m1.1 2 (n + k) = CHR x k) → WT m1 → Fx (RS [0]) m m1 →
      AW ad E0 μX10_add d (fun r m' => r = some (.int 1) ∧ m'.1 1 1 = nI (n + 4) ∧ (∀ k, k < n → m'.1 2 k = m.1 2 k) ∧ (∀ k, k < 4 → m'.1 2 (n + k) = CHR x k) ∧ WT m' ∧ Fx (RS [0]) m m') 13 [(0, .ref (ad 1)), (1, .int x), (2, .int (nI i))] [] m1 := by
    intro j
    induction j with
    | zero =>
      intro i m1 hi h1 h2 h3 w1 f1
      have hi4 : i = 4 := hi
      subst hi4
      exact g_X10_add_13 ⟨fun _ => ⟨rfl, h1, h2, h3, w1, f1⟩, fun c => absurd (by decide) c⟩
    | succ j ih =>
      intro i m1 hi h1 h2 h3 w1 f1
      refine g_X10_add_13 ⟨fun c => absurd ((le_l 4 4 rfl (by decide) (by omega)).mp c) (by omega), fun _ => ⟨?_, ?_⟩⟩
      · rw [h1]; exact nat_in (by omega) (by decide)
      · have e1 : nI i + 1 = nI (i + 1) := nI_1 i
        rw [e1, h1, nI_clamp (by omega)]
        refine ih (i + 1) _ (by omega) ?_ ?_ ?_ ?_ ?_
        · show m1.1 1 1 + 1 = nI (n + (i + 1))
          rw [h1, nI_1]
          rfl
        · intro k hk
          exact (u_ne (by omega)).trans ((u_ne (by omega)).trans (h2 k hk))
        · intro k hk
          refine (u_ne (by omega)).trans ?_
          by_cases hki : k = i
          · subst hki
            exact u_eq
          · exact (u_ne (by omega)).trans (h3 k (by omega))
        · refine (w1.n rfl).t rfl ?_ ?_
          · show (0 : Int) ≤ (m1.1 1 1 + 1).toInt
            rw [h1, nI_1, nI_toInt (by omega)]; omega
          · show (m1.1 1 1 + 1).toInt ≤ 80
            rw [h1, nI_1, nI_toInt (by omega)]; omega
        · exact (f1.i rfl).i rfl
  refine v_X10_add ⟨fun _ => L 4 0 m rfl hn (fun _ _ => rfl) (fun k hk => absurd hk (Nat.not_lt_zero k)) w Fx.rf, fun c => absurd ?_ c⟩
  rw [hn]
  exact nI_le (b := 76) hn76 (by decide)
def TXI (m : Wm) : Prop := m.1 1 1 = m.1 187 14 ∧ ∀ k : Nat, (k : Int) < (m.1 1 1).toInt → CH (m.1 2 k) (m.1 195 k)
theorem e_signC {x : Int32} (w : WT m) {n : Nat} (hn : m.1 1 1 = nI n) (hn80 : n ≤ 80) : Ct ad μX11_sign (d + 1) [.ref (ad 0), .int x] m (fun r m' => WT m' ∧ Fx (RS [0]) m m' ∧ ((n ≤ 76 ∧ r = some (.int (nI (n + 4))) ∧ m'.1 1 1 = nI (n + 4) ∧ (∀ k, k < n → m'.1 2 k = m.1 2 k) ∧ (∀ k, k < 4 → m'.1 2 (n + k) = CHR x k)) ∨ (76 < n ∧ r = some (.int (-1)) ∧ m' = m))) := by
  by_cases h76 : n ≤ 76
  · refine v_X11_sign ((e_add w hn h76).to ?_)
    rintro _ m1 ⟨rfl, h1, h2, h3, w1, f1⟩
    exact ⟨1, rfl, fun c => absurd c (by decide), fun _ => ⟨w1, f1, Or.inl ⟨h76, by rw [h1], h1, h2, h3⟩⟩⟩
  · have hc : ¬ m.1 1 1 ≤ (76 : Int32) := by
      rw [hn]
      exact fun q => h76 ((l_le 76 76 rfl (by decide) (by omega)).mp q)
    exact v_X11_sign (v_X10_add ⟨fun q => absurd q hc, fun _ => ⟨0, rfl, fun _ => ⟨w, Fx.rf, Or.inr ⟨by omega, rfl, rfl⟩⟩, fun q => absurd rfl q⟩⟩)
theorem e_signM {x : Int32} (w : WT m) {n : Nat} (hn : m.1 187 14 = nI n) (hn80 : n ≤ 80) : Ct ad μX12_sign d [.ref (ad 187), .int x] m (fun r m' => WT m' ∧ Fx (RS [20, 21]) m m' ∧ ((n ≤ 76 ∧ r = some (.int (nI (n + 4))) ∧ m'.1 187 14 = nI (n + 4) ∧ (∀ k, k < n → m'.1 195 k = m.1 195 k) ∧ (∀ k, k < 4 → m'.1 195 (n + k) = BYR x k)) ∨ (76 < n ∧ r = some (.int (-1)) ∧ m'.1 187 14 = nI n ∧ (∀ k, k < n → m'.1 195 k = m.1 195 k)))) := by
  have w0 : WT (uI m 187 17 0) := w.n rfl
  have e4 : (uI m 187 17 0).1 187 14 = nI n := hn
  have ea : nI n + 4 = nI (n + 4) := add_l 4 4 rfl n
  refine v_X12_sign ⟨fun c => ?_, fun c => ?_⟩
  · have h76 : n ≤ 76 := by
      rw [e4, ea] at c
      have := (l_le 80 80 rfl (by decide) (by omega)).mp c
      omega
    have L : ∀ (j i : Nat) (m1 : Wm), i + j = 4 → m1.1 187 14 = nI (n + i) → (∀ k, k < n → m1.1 195 k = m.1 195 k) → (∀ k, k < i → m1.1 195 (n + k) = BYR x k) → WT m1 → Fx (RS [20, 21]) m m1 →
        AW ad E0 μX12_sign d (fun r m' => WT m' ∧ Fx (RS [20, 21]) m m' ∧ ((n ≤ 76 ∧ r = some (.int (nI (n + 4))) ∧ m'.1 187 14 = nI (n + 4) ∧ (∀ k, k < n → m'.1 195 k = m.1 195 k) ∧ (∀ k, k < 4 → m'.1 195 (n + k) = BYR x k)) ∨ (76 < n ∧ r = some (.int (-1)) ∧ m'.1 187 14 = nI n ∧ (∀ k, k < n → m'.1 195 k = m.1 195 k)))) 20 [(0, .ref (ad 187)), (1, .int x), (2, .int (3 - nI i))] [] m1 := by
      intro j
      induction j with
      | zero =>
        intro i m1 hi h1 h2 h3 w1 f1
        have hi4 : i = 4 := hi
        subst hi4
        exact g_X12_sign_20 ⟨fun _ => ⟨w1, f1, Or.inl ⟨h76, by rw [h1], h1, h2, h3⟩⟩, fun c => absurd (by decide) c⟩
      | succ j ih =>
        intro i m1 hi h1 h2 h3 w1 f1
        have hi4 : i < 4 := by omega
        have a1 : ∀ i : Fin 4, ¬ ((3 : Int32) - nI i.val < 0) ∧ (3 : Int32) - nI i.val + (-1) = 3 - nI (i.val + 1) := by decide +kernel
        refine g_X12_sign_20 ⟨fun c => absurd c (a1 ⟨i, hi4⟩).1, fun _ => ⟨?_, ?_⟩⟩
        · rw [h1]; exact nat_in (by omega) (by decide)
        · rw [(a1 ⟨i, hi4⟩).2, h1, nI_clamp (by omega)]
          refine ih (i + 1) _ (by omega) ?_ ?_ ?_ ?_ ?_
          · show nI (n + i) + 1 = nI (n + (i + 1))
            rw [nI_1]
            rfl
          · intro k hk
            exact (u_ne (by omega)).trans ((u_ne (by omega)).trans (h2 k hk))
          · intro k hk
            by_cases hki : k = i
            · subst hki
              exact u_eq
            · exact (u_ne (by omega)).trans ((u_ne (by omega)).trans (h3 k (by omega)))
          · refine (w1.t rfl ?_ ?_).n rfl
            · rw [nI_1, nI_toInt (by omega)]; omega
            · rw [nI_1, nI_toInt (by omega)]; omega
          · exact (f1.i rfl).i rfl
    exact L 4 0 _ rfl e4 (fun _ _ => rfl) (fun k hk => absurd hk (Nat.not_lt_zero k)) w0 (Fx.rf.i rfl)
  · have h76 : 76 < n := by
      rw [e4, ea] at c
      exact Nat.lt_of_not_le (fun q => c ((l_le 80 80 rfl (by decide) (by omega)).mpr (by omega)))
    exact ⟨w0, Fx.rf.i rfl, Or.inr ⟨h76, rfl, e4, fun _ _ => rfl⟩⟩
/-- the text behind both calls of sign() -/
theorem sign_both {x : Int32} (w : WT m) (T : TXI m) : Ct ad μX11_sign (d + 1) [.ref (ad 0), .int x] m (fun r m1 => ∃ v : Int32, r = some (.int v) ∧ WT m1 ∧ Fx (RS [0]) m m1 ∧ Ct ad μX12_sign (d + 1) [.ref (ad 187), .int x] m1 (fun r m2 => r = some (.int v) ∧ WT m2 ∧ Fx (RS [20, 21]) m1 m2 ∧ TXI m2)) := by
  obtain ⟨t1, t2⟩ := T
  obtain ⟨n, hn, -, -, h80, -⟩ := w.nat (a := 1) (k := 1) rfl (by decide)
  have h80' : n ≤ 80 := by omega
  have tn' : (m.1 1 1).toInt = n := by rw [hn]; exact nI_toInt (by omega)
  refine (e_signC w hn h80').to ?_
  rintro r m1 ⟨w1, f1, h⟩
  have g14 : m1.1 187 14 = nI n := (f1.at (a := 187) (k := 14) (by decide)).trans (t1.symm.trans hn)
  have g195 : ∀ k, m1.1 195 k = m.1 195 k := fun k => f1.at (a := 195) (k := k) (by show ¬ (([0] : List Nat).elem 21 = true); decide)
  have h2 : ∀ m2, Fx (RS [20, 21]) m1 m2 → m2.1 1 1 = m1.1 1 1 ∧ ∀ k, m2.1 2 k = m1.1 2 k := fun m2 f2 => ⟨f2.at (a := 1) (k := 1) (by decide), fun k => f2.at (a := 2) (k := k) (by show ¬ (([20, 21] : List Nat).elem 0 = true); decide)⟩
  rcases h with ⟨h76, rfl, a1, a2, a3⟩ | ⟨h76, rfl, rfl⟩
  · refine ⟨_, rfl, w1, f1, (e_signM w1 g14 h80').to ?_⟩
    rintro r m2 ⟨w2, f2, b⟩
    obtain ⟨c1, c2⟩ := h2 m2 f2
    rcases b with ⟨-, rfl, b1, b2, b3⟩ | ⟨q, -⟩
    · refine ⟨rfl, w2, f2, by rw [c1, a1, b1], fun k hk => ?_⟩
      rw [c1, a1, nI_toInt (by omega)] at hk
      rw [c2]
      by_cases hkn : k < n
      · rw [a2 k hkn, b2 k hkn, g195]
        exact t2 k (by omega)
      · have e : k = n + (k - n) := by omega
        rw [e, a3 (k - n) (by omega), b3 (k - n) (by omega)]
        exact ch_k x (by omega)
    · omega
  · refine ⟨_, rfl, w1, f1, (e_signM w1 g14 h80').to ?_⟩
    rintro r m2 ⟨w2, f2, b⟩
    obtain ⟨c1, c2⟩ := h2 m2 f2
    rcases b with ⟨q, -⟩ | ⟨-, rfl, b1, b2⟩
    · omega
    · refine ⟨rfl, w2, f2, by rw [c1, hn, b1], fun k hk => ?_⟩
      rw [c1] at hk
      rw [c2, b2 k (by omega)]
      exact t2 k hk
end TXS
