/-! THE NUMBER OF THE ROW, BY HAND: table, top, quick (model), best, even, pays -/
section NTB
variable {ad : Nat → Nat} {m : Wm}
theorem cnB_all {f : Nat → Bool} : ∀ n, (∀ t, t < n → f t = true) → cnB f n = n := by
  intro n
  induction n with
  | zero => intro _; rfl
  | succ n ih =>
    intro h
    show cnB f n + (if f n = true then 1 else 0) = n + 1
    rw [ih (fun t ht => h t (by omega)), h n (by omega)]
    rfl
theorem cnB_ls {f : Nat → Bool} {s : Nat} : ∀ n, s < n → f s = false → cnB f n < n := by
  intro n
  induction n with
  | zero => intro h; omega
  | succ n ih =>
    intro h e
    show cnB f n + (if f n = true then 1 else 0) < n + 1
    have := cnB_le (f := f) n
    by_cases q : s = n
    · rw [← q, e]
      simp only [Bool.false_eq_true, if_false]
      rw [q]
      omega
    · have := ih (by omega) e
      split <;> omega
def tbN (m : Wm) (r : Option Value) (m' : Wm) : Prop := WT m' ∧ Fx (RS [20, 22, 26, 28]) m m' ∧ ∃ v : Int32, r = some (.int v) ∧ v.toInt = (m.1 187 1).toInt ∧ (m'.1 187 16).toInt = (m.1 187 1).toInt
theorem n_X12_table {d : Nat} (w : WT m) : Ct ad μX12_table (d + 170) [.ref (ad 187)] m (tbN m) := by
  obtain ⟨n, en, -, n1, n2, n3⟩ := w.nat (a := 187) (k := 1) rfl (by decide)
  have hn8 : n ≤ 8 := by omega
  let c : Nat → Nat := fun s => cnB (fun o => (!decide (o = s)) && ahB (m.1 190) (pwM m) o s) n
  have cd : ∀ s, c s = cnB (fun o => (!decide (o = s)) && ahB (m.1 190) (pwM m) o s) n := fun _ => rfl
  have sid : ∀ m1, Fx (RS [20, 22, 26, 28]) m m1 → m1.1 187 1 = nI n := fun m1 f1 => (f1.at (by decide)).trans en
  have nle : ∀ m1, Fx (RS [20, 22, 26, 28]) m m1 → ∀ o, o < n → ¬ m1.1 187 1 ≤ nI o := fun m1 f1 o ho q => by
    rw [sid m1 f1] at q
    have := (nI_leI (by omega) (by omega)).mp q
    omega
  have pww : ∀ m1, Fx (RS [20, 22, 26, 28]) m m1 → pwM m1 = pwM m ∧ m1.1 190 = m.1 190 := by
    intro m1 f1
    have e1 := fx_cell (a := 200) (ρ := 48) f1 (fun _ => rfl) rfl
    have e2 := fx_cell (a := 188) (ρ := 24) f1 (fun _ => rfl) rfl
    have e3 := fx_cell (a := 190) (ρ := 24) f1 (fun _ => rfl) rfl
    have e4 := fx_cell (a := 191) (ρ := 24) f1 (fun _ => rfl) rfl
    have e5 := f1.at (a := 187) (k := 27) (by decide)
    have e6 := f1.at (a := 187) (k := 0) (by decide)
    refine ⟨?_, e3⟩
    funext s
    unfold pwM
    rw [e1, e2, e3, e4, e5, e6]
  have L35 : ∀ (p s : Nat), p < 8 → s < n → (∀ m2, WT m2 → Fx (RS [20, 22, 26, 28]) m m2 → (m2.1 187 16).toInt = (tbR c n p (s + 1) : Int) → AW ad E0 μX12_table (d + 170) (tbN m) 22 [(0, .ref (ad 187)), (1, .int (nI p)), (2, .int (nI (s + 1)))] [] m2) →
      ∀ j o m1, o + j = n → WT m1 → Fx (RS [20, 22, 26, 28]) m m1 → (m1.1 187 16).toInt = (tbR c n p s : Int) → AW ad E0 μX12_table (d + 170) (tbN m) 35 [(0, .ref (ad 187)), (1, .int (nI p)), (2, .int (nI s)), (3, .int (nI (cnB (fun o => (!decide (o = s)) && ahB (m.1 190) (pwM m) o s) o))), (4, .int (nI o))] [] m1 := by
    intro p s hp hs K j
    induction j with
    | zero =>
      intro o m1 ho w1 f1 h16
      obtain rfl : o = n := by omega
      have hc := cnB_le (f := fun o => (!decide (o = s)) && ahB (m.1 190) (pwM m) o s) o
      have hR := tbR_le (c := c) (n := o) (p := p) (s := s) (by omega)
      refine g_X12_table_35 ⟨fun _ => ⟨fun e => ?_, fun e => (s_X12_tell w1 (by omega)).to ?_⟩, fun q => absurd (by rw [sid m1 f1]; exact (nI_leI (by omega) (by omega)).mpr (Nat.le_refl _)) q⟩
      · rw [nI_1]
        refine K m1 w1 f1 ?_
        rw [h16]
        have : c s ≠ p := fun q => e (by rw [← cd, q])
        show ((tbR c o p s : Nat) : Int) = ((cnB _ o + (cnB (fun t => decide (c t = p)) s + (if decide (c s = p) = true then 1 else 0)) : Nat) : Int)
        rw [decide_eq_false this]
        rfl
      · rintro _ m2 ⟨w2, f2, rfl, p2⟩
        refine ⟨rfl, ?_⟩
        rw [nI_1]
        refine K m2 w2 (f1.tr f2 (RS_sub rfl)) ?_
        rw [p2, h16]
        have : c s = p := by
          have h1 := congrArg Int32.toInt e
          rw [nI_toInt (by omega), nI_toInt (by omega)] at h1
          rw [cd]
          omega
        show ((tbR c o p s : Nat) : Int) + 1 = ((cnB _ o + (cnB (fun t => decide (c t = p)) s + (if decide (c s = p) = true then 1 else 0)) : Nat) : Int)
        rw [decide_eq_true this]
        show ((cnB _ o + cnB _ s : Nat) : Int) + 1 = ((cnB _ o + (cnB _ s + 1) : Nat) : Int)
        omega
    | succ j ih =>
      intro o m1 ho w1 f1 h16
      have st : ∀ b : Bool, ((!decide (o = s)) && ahB (m.1 190) (pwM m) o s) = b → cnB (fun o => (!decide (o = s)) && ahB (m.1 190) (pwM m) o s) (o + 1) = cnB (fun o => (!decide (o = s)) && ahB (m.1 190) (pwM m) o s) o + (if b then 1 else 0) := by
        intro b hb
        show _ + (if ((!decide (o = s)) && ahB (m.1 190) (pwM m) o s) = true then 1 else 0) = _
        rw [hb]
      refine g_X12_table_35 ⟨fun q => absurd q (nle m1 f1 _ (by omega)), fun _ => ⟨fun e => ?_, fun e => ?_⟩⟩
      · have hos : o = s := by
          have h1 := congrArg Int32.toInt e
          rw [nI_toInt (by omega), nI_toInt (by omega)] at h1
          omega
        have := ih (o + 1) m1 (by omega) w1 f1 h16
        rw [st false (by rw [decide_eq_true hos]; rfl)] at this
        rw [nI_1, Int32.add_zero]
        exact this
      · have hos : o ≠ s := fun q => e (by rw [q])
        refine (isAhead_ok w1 (by omega) (by omega)).to ?_
        rintro _ m2 ⟨w2, f2, rfl⟩
        have f2' := f1.tr f2 (RS_sub (l1 := [22, 28]) rfl)
        have h16' : (m2.1 187 16).toInt = (tbR c n p s : Int) := by rw [f2.at (by decide)]; exact h16
        have hh := ih (o + 1) m2 (by omega) w2 f2' h16'
        obtain ⟨e1, e2⟩ := pww m1 f1
        rw [e1, e2]
        refine ⟨_, rfl, fun q => ?_, fun q => ?_⟩
        · rw [st false (by
            rw [decide_eq_false hos]
            cases hb : ahB (m.1 190) (pwM m) o s
            · rfl
            · rw [hb] at q; exact absurd q (by decide))] at hh
          rw [nI_1, Int32.add_zero]
          exact hh
        · rw [st true (by
            rw [decide_eq_false hos]
            cases hb : ahB (m.1 190) (pwM m) o s
            · rw [hb] at q; exact absurd rfl q
            · rfl)] at hh
          rw [nI_1, nI_1]
          exact hh
  have L22 : ∀ (p : Nat), p < n → (∀ m2, WT m2 → Fx (RS [20, 22, 26, 28]) m m2 → (m2.1 187 16).toInt = (tbR c n (p + 1) 0 : Int) → AW ad E0 μX12_table (d + 170) (tbN m) 12 [(0, .ref (ad 187)), (1, .int (nI (p + 1)))] [] m2) →
      ∀ j s m1, s + j = n → WT m1 → Fx (RS [20, 22, 26, 28]) m m1 → (m1.1 187 16).toInt = (tbR c n p s : Int) → AW ad E0 μX12_table (d + 170) (tbN m) 22 [(0, .ref (ad 187)), (1, .int (nI p)), (2, .int (nI s))] [] m1 := by
    intro p hp K j
    induction j with
    | zero =>
      intro s m1 hs w1 f1 h16
      obtain rfl : s = n := by omega
      refine g_X12_table_22 ⟨fun _ => ?_, fun q => absurd (by rw [sid m1 f1]; exact (nI_leI (by omega) (by omega)).mpr (Nat.le_refl _)) q⟩
      rw [nI_1]
      exact K m1 w1 f1 (by rw [h16, tbR_nx])
    | succ j ih =>
      intro s m1 hs w1 f1 h16
      refine g_X12_table_22 ⟨fun q => absurd q (nle m1 f1 _ (by omega)), fun _ => ?_⟩
      exact L35 p s (by omega) (by omega) (fun m2 w2 f2 h2 => ih (s + 1) m2 (by omega) w2 f2 h2) n 0 m1 (by omega) w1 f1 h16
  have L12 : ∀ j p m1, p + j = n → WT m1 → Fx (RS [20, 22, 26, 28]) m m1 → (m1.1 187 16).toInt = (tbR c n p 0 : Int) → AW ad E0 μX12_table (d + 170) (tbN m) 12 [(0, .ref (ad 187)), (1, .int (nI p))] [] m1 := by
    intro j
    induction j with
    | zero =>
      intro p m1 hp w1 f1 h16
      obtain rfl : p = n := by omega
      have hR : tbR c p p 0 = p := by
        show cnB (fun t => decide (c t < p)) p + 0 = p
        rw [cnB_all p (fun t ht => decide_eq_true (cnB_ls p ht (by rw [decide_eq_true rfl]; rfl)))]
        rfl
      exact g_X12_table_12 ⟨fun _ => ⟨w1, f1, _, rfl, by rw [sid m1 f1, en], by rw [h16, hR, en, nI_toInt (by omega)]⟩, fun q => absurd (by rw [sid m1 f1]; exact (nI_leI (by omega) (by omega)).mpr (Nat.le_refl _)) q⟩
    | succ j ih =>
      intro p m1 hp w1 f1 h16
      refine g_X12_table_12 ⟨fun q => absurd q (nle m1 f1 _ (by omega)), fun _ => ?_⟩
      exact L22 p (by omega) (fun m2 w2 f2 h2 => ih (p + 1) m2 (by omega) w2 f2 h2) n 0 m1 (by omega) w1 f1 h16
  refine v_X12_table (d := d + 169) ?_
  have := L12 n 0 (uI (uI m 187 17 0) 187 16 0) (by omega) ((w.n rfl).t rfl (by decide) (by decide)) (((Fx.rf (S := RS [20, 22, 26, 28]) (m := m)).i (a := 187) (k := 17) rfl).i (a := 187) (k := 16) rfl) (by rw [show tbR c n 0 0 = 0 from cnB_0 n]; rfl)
  exact this
end NTB
section NTQ
variable {ad : Nat → Nat} {m : Wm}
def twP (v : Int32) (m' : Wm) : Prop := 0 ≤ v.toInt ∧ ((v.toInt ≤ 10 ∧ (m'.1 187 16).toInt = v.toInt) ∨ (10 < v.toInt ∧ (m'.1 187 16).toInt = 10))
def twQ (m : Wm) (r : Option Value) (m' : Wm) : Prop := WT m' ∧ Fx (RS [20, 22, 24, 26, 28, 34, 35, 38, 49]) m m' ∧ ∃ v : Int32, r = some (.int v) ∧ ((v.toInt < 0 ∧ (m'.1 187 16).toInt = (m.1 187 16).toInt) ∨ twP v m')
theorem tw_no {m1 : Wm} {v : Int32} (w1 : WT m1) (f1 : Fx (RS [20, 22, 24, 28, 34, 35, 49]) m m1) (h : v.toInt < 0) : twQ m (some (.int v)) m1 := ⟨w1, (Fx.rf (S := RS [20, 22, 24, 26, 28, 34, 35, 38, 49])).tr f1 (RS_sub rfl), v, rfl, Or.inl ⟨h, congrArg _ (f1.at (nRS (ρ := 26) rfl rfl))⟩⟩
theorem tw_yes {m2 m3 : Wm} {v : Int32} (w3 : WT m3) (f : Fx (RS [20, 22, 24, 28, 34, 35, 49]) m m2) (f3 : Fx (RS [26, 38]) m2 m3) (h : twP v m3) : twQ m (some (.int v)) m3 := ⟨w3, ((Fx.rf (S := RS [20, 22, 24, 26, 28, 34, 35, 38, 49])).tr f (RS_sub rfl)).tr f3 (RS_sub rfl), v, rfl, Or.inr h⟩
theorem n_tellWay {d : Nat} {x1 : Int32} (w : WT m) (s : ST m) (i1 : 0 ≤ x1.toInt) (i2 : x1.toInt < (m.1 187 43).toInt) : Ct ad μX12_tellWay (d + 1) [.ref (ad 187), .int x1] m (fun r m' => WT m' ∧ Fx (RS [26, 38]) m m' ∧ ∃ v : Int32, r = some (.int v) ∧ twP v m') := by
  have z0 : (0 : Int32).toInt = 0 := rfl
  have zn1 : (-1 : Int32).toInt = -1 := rfl
  have L2 : ∀ n : Nat, ∀ (m1 : Wm) (x2 : Int32) (k : Nat), k + n = 10 → WT m1 → Fx (RS [26, 38]) m m1 → (m1.1 187 16).toInt = (k : Int) → (k : Int) ≤ x2.toInt → AW ad E0 μX12_tellWay (d + 1) (fun r m' => WT m' ∧ Fx (RS [26, 38]) m m' ∧ ∃ v : Int32, r = some (.int v) ∧ twP v m') 53 [(0, .ref (ad 187)), (2, .int x2), (4, .int (nI k))] [] m1 := by
    intro n
    induction n with
    | zero =>
      intro m1 x2 k hk w1 f1 e1 kx
      have tk : (nI k).toInt = (k : Int) := nI_toInt (by omega)
      have Y : WT m1 ∧ Fx (RS [26, 38]) m m1 ∧ ∃ v : Int32, some (Value.int x2) = some (.int v) ∧ twP v m1 := ⟨w1, f1, x2, rfl, by unfold twP; omega⟩
      exact g_X12_tellWay_53 ⟨fun _ => Y, fun _ => ⟨fun _ => Y, fun c => absurd ((le_l 10 10 rfl (by omega) (by omega)).mpr (by omega)) c⟩⟩
    | succ n ih =>
      intro m1 x2 k hk w1 f1 e1 kx
      have tk : (nI k).toInt = (k : Int) := nI_toInt (by omega)
      refine g_X12_tellWay_53 ⟨fun c => ⟨w1, f1, x2, rfl, by have := z_le c; unfold twP; omega⟩, fun cx => ⟨fun c => absurd (z_le c) (by have : (10 : Int32).toInt = 10 := rfl; omega), fun c => ⟨nat_in (by omega) (by decide), (s_X12_tell w1 (by omega)).to ?_⟩⟩⟩
      rintro _ m2 ⟨w2, f2, rfl, p2⟩
      refine ⟨rfl, ?_⟩
      rw [nI_1]
      exact ih m2 x2 (k + 1) (by omega) w2 (f1.tr f2 (RS_sub rfl)) (by omega) (by have := z_nle cx; omega)
  have L1 : ∀ j : Nat, ∀ (m1 : Wm) (x2 x3 x4 : Int32), x4.toInt = (j : Int) - 1 → 0 ≤ x2.toInt → j ≤ 3000 → WT m1 → Fx (RS [26, 38]) m m1 → ST m1 → (0 < j → 0 ≤ x3.toInt ∧ x3.toInt < (m1.1 187 43).toInt ∧ (m1.1 207 x3.toNatClampNeg).toInt = (j : Int)) → AW ad E0 μX12_tellWay (d + 1) (fun r m' => WT m' ∧ Fx (RS [26, 38]) m m' ∧ ∃ v : Int32, r = some (.int v) ∧ twP v m') 14 [(0, .ref (ad 187)), (2, .int x2), (3, .int x3), (4, .int x4)] [] m1 := by
    intro j
    induction j with
    | zero =>
      intro m1 x2 x3 x4 e4 e2 hj w1 f1 s1 h
      refine g_X12_tellWay_14 ⟨fun _ => ?_, fun c => absurd (z_nlt c) (by omega)⟩
      exact L2 10 _ x2 0 (by decide) (w1.t rfl (by decide) (by decide)) (f1.i rfl) rfl (by omega)
    | succ j ih =>
      intro m1 x2 x3 x4 e4 e2 hj w1 f1 s1 h
      have t43 := w1.at (a := 187) (k := 43) rfl
      obtain ⟨h1, h2, h3⟩ := h (by omega)
      refine g_X12_tellWay_14 ⟨fun c => absurd (z_lt c) (by omega), fun _ => ?_⟩
      refine ⟨vpi (by omega) (by omega), vpi (by omega) (by omega), vpi (by omega) (by omega), ?_⟩
      obtain ⟨k, hk, rfl⟩ := zn_of h1
      rw [nI_clamp hk] at h3 ⊢
      rw [nI_toInt hk] at h1 h2
      have w2 : WT (uI m1 212 x4.toNatClampNeg (m1.1 209 k)) := w1.n rfl
      have s2 : ST (uI m1 212 x4.toNatClampNeg (m1.1 209 k)) := s1.fx (S := [38]) ((Fx.rf (m := m1)).i rfl) rfl
      rcases s1.2.2 k h2 with q | ⟨p, q1, q2, q3⟩
      · omega
      · refine ih _ _ _ _ ?_ e2 (by omega) w2 (f1.i rfl) s2 (fun hj0 => ?_)
        · rw [ti_addc (c := -1) zn1 (by omega)]
          omega
        · show 0 ≤ (m1.1 208 k).toInt ∧ (m1.1 208 k).toInt < (m1.1 187 43).toInt ∧ (m1.1 207 (m1.1 208 k).toNatClampNeg).toInt = _
          rw [q1, nI_clamp (by omega), nI_toInt (by omega)]
          omega
  have t43 := w.at (a := 187) (k := 43) rfl
  refine v_X12_tellWay ⟨vpi (by omega) (by omega), ?_⟩
  obtain ⟨k, hk, rfl⟩ := zn_of i1
  rw [nI_clamp hk]
  rw [nI_toInt hk] at i1 i2
  have t207 := w.at (a := 207) (k := k) (lo := 0) (hi := (k : Int)) rfl
  have t1 := ti_subc (x := m.1 207 k) (y := 1) (c := 1) rfl (by omega)
  refine L1 (m.1 207 k).toInt.toNat m _ _ _ (by omega) (by omega) (by omega) w Fx.rf s (fun hj => ?_)
  rw [nI_clamp hk, nI_toInt hk]
  omega
theorem n_X12_top {d : Nat} {x1 x2 x3 : Int32} (w : WT m) : Ct ad μX12_top (d + 178) [.ref (ad 187), .int x1, .int x2, .int x3] m (twQ m) := by
  have z0 : (0 : Int32).toInt = 0 := rfl
  have L : ∀ n : Nat, ∀ (m1 : Wm) (k : Nat), k + n = 3001 → WT m1 → Fx (RS [20, 22, 24, 28, 34, 35, 49]) m m1 → ST m1 → 0 ≤ x1.toInt → x1.toInt ≤ 7 → 0 ≤ x2.toInt → x2.toInt ≤ 3 → AW ad E0 μX12_top (d + 178) (twQ m) 51 [(0, .ref (ad 187)), (1, .int x1), (2, .int x2), (3, .int x3), (4, .int (nI k))] [] m1 := by
    intro n
    induction n with
    | zero =>
      intro m1 k hk w1 f1 s1 a1 a2 a3 a4
      have t43 := w1.at (a := 187) (k := 43) rfl
      have tk : (nI k).toInt = (k : Int) := nI_toInt (by omega)
      exact g_X12_top_51 ⟨fun _ => tw_no w1 f1 (by decide), fun c => absurd (z_nle c) (by omega)⟩
    | succ n ih =>
      intro m1 k hk w1 f1 s1 a1 a2 a3 a4
      have t43 := w1.at (a := 187) (k := 43) rfl
      have tk : (nI k).toInt = (k : Int) := nI_toInt (by omega)
      refine g_X12_top_51 ⟨fun _ => tw_no w1 f1 (by decide), fun c => ?_⟩
      have c' := z_nle c
      refine (s_X12_skillIn w1 (by omega) (by omega) a1 a2 a3 a4).to ?_
      rintro _ m2 ⟨w2, f2, v, rfl⟩
      have s2 := s1.fx f2 rfl
      have e2 := f2.at (a := 187) (k := 43) (by decide)
      refine ⟨v, rfl, fun _ => ?_, fun _ => (n_tellWay w2 s2 (by omega) (by rw [e2]; omega)).to ?_⟩
      · rw [nI_1]
        exact ih m2 (k + 1) (by omega) w2 (f1.tr f2 (RS_sub rfl)) s2 a1 a2 a3 a4
      · rintro _ m3 ⟨w3, f3, v3, rfl, p3⟩
        exact ⟨v3, rfl, tw_yes w3 (f1.tr f2 (RS_sub rfl)) f3 p3⟩
  have w0 : WT (uI m 187 17 0) := w.n rfl
  have f0 : Fx (RS [20, 22, 24, 28, 34, 35, 49]) m (uI m 187 17 0) := Fx.rf.i rfl
  refine v_X12_top ((s_X12_isSide w0).to ?_)
  rintro _ m1 ⟨w1, f1, v1, rfl, a1, a2, a3⟩
  have f1' := f0.tr f1 (RS_sub rfl)
  refine ⟨v1, rfl, fun _ => tw_no w1 f1' (by decide), fun c1 => (s_X12_isArt w1).to ?_⟩
  rintro _ m2 ⟨w2, f2, v2, rfl, b1, b2, b3⟩
  have f2' := f1'.tr f2 (RS_sub rfl)
  refine ⟨v2, rfl, fun _ => tw_no w2 f2' (by decide), fun c2 => (s_X12_in (x := x3) (lo := 0) (hi := 7) w2 rfl rfl).to ?_⟩
  rintro _ m3 ⟨w3, f3, v3, rfl, -⟩
  have f3' := f2'.tr f3 (RS_sub rfl)
  refine ⟨v3, rfl, fun _ => (findStates_ok w3).to ?_, fun _ => tw_no w3 f3' (by decide)⟩
  rintro _ m4 ⟨w4, f4, s4, g4, v4, rfl, -⟩
  have f4' := f3'.tr f4 (RS_sub rfl)
  have k1 := z_ne c1
  have k2 := z_ne c2
  have t0 := w0.at (a := 187) (k := 1) rfl
  have t1 := w1.at (a := 187) (k := 0) rfl
  refine ⟨v4, rfl, fun _ => L 3001 m4 0 (by decide) w4 f4' s4 (by omega) (by omega) (by omega) (by omega), fun _ => tw_no w4 f4' (by decide)⟩
theorem n_X12_quick {d : Nat} {x1 : Int32} (w : WT m) : Ct ad μX12_quick (d + 178) [.ref (ad 187), .int x1] m (twQ m) := by
  have z0 : (0 : Int32).toInt = 0 := rfl
  have zn1 : (-1 : Int32).toInt = -1 := rfl
  have w0 : WT (uI m 187 17 0) := w.n rfl
  have f0 : Fx (RS [20, 22, 24, 28, 34, 35, 49]) m (uI m 187 17 0) := Fx.rf.i rfl
  have L100 : ∀ (m1 : Wm) (x2 : Int32), WT m1 → Fx (RS [20, 22, 24, 28, 34, 35, 49]) m m1 → ST m1 → x2.toInt = -1 ∨ (0 ≤ x2.toInt ∧ x2.toInt < (m1.1 187 43).toInt) → AW ad E0 μX12_quick (d + 178) (twQ m) 100 [(0, .ref (ad 187)), (2, .int x2)] [] m1 := by
    intro m1 x2 w1 f1 s1 h
    refine g_X12_quick_100 ((s_X12_bring_204 w1 (by decide) (by decide)).to ?_)
    rintro _ m2 ⟨w2, f2, rfl⟩
    have s2 := s1.fx f2 rfl
    have e2 := f2.at (a := 187) (k := 43) (by decide)
    refine ⟨rfl, fun c => ?_, fun _ => tw_no w2 (f1.tr f2 (RS_sub rfl)) (by decide)⟩
    have c' := z_ne c
    refine (n_tellWay w2 s2 (by omega) (by rw [e2]; omega)).to ?_
    rintro _ m3 ⟨w3, f3, v3, rfl, p3⟩
    exact ⟨v3, rfl, tw_yes w3 (f1.tr f2 (RS_sub rfl)) f3 p3⟩
  have L : ∀ n : Nat, (∀ (m1 : Wm) (x2 x3 : Int32), WT m1 → Fx (RS [20, 22, 24, 28, 34, 35, 49]) m m1 → ST m1 → (x2.toInt = -1 ∨ (0 ≤ x2.toInt ∧ x2.toInt < (m1.1 187 43).toInt)) → 0 ≤ x3.toInt → x3.toInt ≤ 3000 → (3000 - x3.toInt) * 20 + 15 < (n : Int) → AW ad E0 μX12_quick (d + 178) (twQ m) 22 [(0, .ref (ad 187)), (1, .int x1), (2, .int x2), (3, .int x3)] [] m1) ∧
      (∀ (m1 : Wm) (x3 x4 x5 : Int32), WT m1 → Fx (RS [20, 22, 24, 28, 34, 35, 49]) m m1 → ST m1 → 0 ≤ x3.toInt → x3.toInt < (m1.1 187 43).toInt → 0 ≤ x5.toInt → x5.toInt ≤ 8 → (3000 - x3.toInt) * 20 + 10 - x5.toInt < (n : Int) → AW ad E0 μX12_quick (d + 178) (twQ m) 46 [(0, .ref (ad 187)), (1, .int x1), (3, .int x3), (4, .int x4), (5, .int x5)] [] m1) ∧
      (∀ (m1 : Wm) (x3 x4 : Int32), WT m1 → Fx (RS [20, 22, 24, 28, 34, 35, 49]) m m1 → ST m1 → 0 ≤ x3.toInt → x3.toInt < (m1.1 187 43).toInt → (3000 - x3.toInt) * 20 < (n : Int) → AW ad E0 μX12_quick (d + 178) (twQ m) 83 [(0, .ref (ad 187)), (1, .int x1), (3, .int x3), (4, .int x4)] [] m1) := by
    intro n
    induction n with
    | zero =>
      refine ⟨fun m1 x2 x3 w1 f1 s1 h a b c => ?_, fun m1 x3 x4 x5 w1 f1 s1 a b c e g => ?_, fun m1 x3 x4 w1 f1 s1 a b c => ?_⟩
      all_goals have t43 := w1.at (a := 187) (k := 43) rfl
      all_goals exfalso
      all_goals omega
    | succ n ih =>
      refine ⟨fun m1 x2 x3 w1 f1 s1 h a b c => ?_, fun m1 x3 x4 x5 w1 f1 s1 a b c e g => ?_, fun m1 x3 x4 w1 f1 s1 a b c => ?_⟩
      all_goals have t43 := w1.at (a := 187) (k := 43) rfl
      · refine g_X12_quick_22 ⟨fun _ => L100 _ _ w1 f1 s1 h, fun q => ⟨fun _ => L100 _ _ w1 f1 s1 h, fun _ => ?_⟩⟩
        have q' := z_nle q
        refine (s_X12_load w1 (by omega) (by omega)).to ?_
        rintro _ m2 ⟨w2, f2, rfl⟩
        have e2 := f2.at (a := 187) (k := 43) (by decide)
        exact ⟨rfl, ih.2.1 m2 x3 1 0 w2 (f1.tr f2 (RS_sub rfl)) (s1.fx f2 rfl) a (by rw [e2]; omega) (by decide) (by decide) (by omega)⟩
      · have t11 := w1.at (a := 187) (k := 1) rfl
        refine g_X12_quick_46 ⟨fun _ => ih.2.2 m1 x3 x4 w1 f1 s1 a b (by omega), fun q => ⟨fun _ => ih.2.2 m1 x3 x4 w1 f1 s1 a b (by omega), fun _ => ?_⟩⟩
        have q' := z_nle q
        have t5 := ti_addc (x := x5) (y := 1) (c := 1) rfl (by omega)
        refine (s_X12_power w1 (by omega) (by omega)).to ?_
        rintro _ m2 ⟨w2, f2, v, rfl⟩
        have e2 := f2.at (a := 187) (k := 43) (by decide)
        have s2 := s1.fx f2 rfl
        have f2' := f1.tr f2 (RS_sub rfl)
        exact ⟨v, rfl, fun _ => ih.2.1 m2 x3 0 (x5 + 1) w2 f2' s2 a (by rw [e2]; omega) (by omega) (by omega) (by omega), fun _ => ih.2.1 m2 x3 1 (x5 + 1) w2 f2' s2 a (by rw [e2]; omega) (by omega) (by omega) (by omega)⟩
      · have t3 := ti_addc (x := x3) (y := 1) (c := 1) rfl (by omega)
        exact g_X12_quick_83 ⟨fun _ => ih.1 m1 (-1) (x3 + 1) w1 f1 s1 (Or.inl zn1) (by omega) (by omega) (by omega), fun _ => ih.1 m1 x3 (x3 + 1) w1 f1 s1 (Or.inr ⟨a, b⟩) (by omega) (by omega) (by omega)⟩
  refine v_X12_quick ((findStates_ok w0).to ?_)
  rintro _ m4 ⟨w4, f4, s4, g4, v4, rfl, -⟩
  have f4' := f0.tr f4 (RS_sub rfl)
  exact ⟨v4, rfl, fun _ => (L 100000).1 m4 (-1) 0 w4 f4' s4 (Or.inl zn1) (by decide) (by decide) (by rw [z0]; decide), fun _ => tw_no w4 f4' (by decide)⟩
end NTQ
