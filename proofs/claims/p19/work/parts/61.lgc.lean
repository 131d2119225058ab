section
/-! THE LEAGUE'S TEXT AS THE CLASS READS IT: sign by sign, into the draft -/
theorem c_ne {m : Wm} {a0 a s e n b j : Nat} (h : b ≠ a) : (uC m a0 a s e n).1 b j = m.1 b j := if_neg h
theorem c_at {m : Wm} {a0 a s e n j : Nat} (hs : s = 0) (he : e = 0) (h : j < n) : (uC m a0 a s e n).1 a j = m.1 a0 j := by
  subst hs he
  show (if a = a then va_cpy (m.1 a0) (m.1 a) 0 0 n j else m.1 a j) = _
  rw [if_pos rfl]
  show (if 0 ≤ j ∧ j < 0 + n then m.1 a0 (0 + (j - 0)) else m.1 a j) = _
  rw [if_pos ⟨Nat.zero_le _, by omega⟩, Nat.zero_add, Nat.sub_zero]
section CPY
variable {ad : Nat → Nat} {d : Nat} {m : Wm}
theorem e_copy {b0 b1 ρ0 ρ1 : Nat} (w : WT m) (hb0 : SS b0 ρ0) (hb1 : SS b1 ρ1) (hd : b1 + 4 < b0 ∨ b0 + 4 < b1) : Ct ad μX8_copy (d + 1) [.ref (ad b0), .ref (ad b1)] m (fun r m' => WT m' ∧ Fx (RS (ρ0 :: [])) m m' ∧ r = none ∧ (∀ k, k < 32 → m'.1 (b0 + 1) k = m.1 (b1 + 1) k) ∧ (∀ j k, 2 ≤ j → j ≤ 4 → k < 8 → m'.1 (b0 + j) k = m.1 (b1 + j) k) ∧ m'.1 b0 4 = m.1 b1 4) := by
  have h := hb0.2
  refine v_X8_copy hb0.1 hb1.1 ⟨by decide, by decide, by decide, by decide, by decide, by decide, by decide, by decide, by decide, by decide, by decide, by decide, by decide, by decide, by decide, by decide, by decide, by decide, by decide, by decide, ?_⟩
  refine ⟨((((w.c (fun k => (h 1 k (by decide)).2)).c (fun k => (h 2 k (by decide)).2)).c (fun k => (h 3 k (by decide)).2)).c (fun k => (h 4 k (by decide)).2)).s0 h, ((((Fx.rf.c (fun k => RS_hd h (by decide))).c (fun k => RS_hd h (by decide))).c (fun k => RS_hd h (by decide))).c (fun k => RS_hd h (by decide))).i (RS_hd0 h), rfl, fun k hk => ?_, fun j k h2 h4 hk => ?_, ?_⟩
  · exact (u_ne (by omega)).trans ((c_ne (by omega)).trans ((c_ne (by omega)).trans ((c_ne (by omega)).trans (c_at rfl rfl hk))))
  · have hj : j = 2 ∨ j = 3 ∨ j = 4 := by omega
    rcases hj with rfl | rfl | rfl
    · exact (u_ne (by omega)).trans ((c_ne (by omega)).trans ((c_ne (by omega)).trans ((c_at rfl rfl hk).trans (c_ne (by omega)))))
    · exact (u_ne (by omega)).trans ((c_ne (by omega)).trans ((c_at rfl rfl hk).trans ((c_ne (by omega)).trans (c_ne (by omega)))))
    · exact (u_ne (by omega)).trans ((c_at rfl rfl hk).trans ((c_ne (by omega)).trans ((c_ne (by omega)).trans (c_ne (by omega)))))
  · exact u_eq.trans ((c_ne (by omega)).trans ((c_ne (by omega)).trans ((c_ne (by omega)).trans (c_ne (by omega)))))
theorem e_putS {b0 i : Nat} {x1 x2 x3 : Int32} (hb0 : St b0) (h : x1 * 4 + x2 = nI i) (hi : i < 32) : Ct ad μX8_putSkill d [.ref (ad b0), .int x1, .int x2, .int x3] m (fun r m' => r = none ∧ m' = uI m (b0 + 1) i x3) := by
  refine v_X8_putSkill hb0 ?_
  rw [h]
  refine ⟨fun c => absurd c (nI_pos (by omega)), fun _ => ⟨fun c => absurd ((le_l 32 32 rfl (by decide) (by omega)).mp c) (by omega), fun _ => ⟨nat_in hi (by decide), rfl, ?_⟩⟩⟩
  rw [nI_clamp (by omega)]
def clrP (b s : Nat) (m m' : Wm) : Prop := (∀ k, m'.1 (b + 1) k = if 4 * s ≤ k ∧ k < 4 * s + 4 then 0 else m.1 (b + 1) k) ∧ (∀ j t, 2 ≤ j → j ≤ 4 → m'.1 (b + j) t = if t = s then 0 else m.1 (b + j) t) ∧ (∀ a k, a < b + 1 ∨ b + 4 < a → m'.1 a k = m.1 a k) ∧ m'.2 = m.2
theorem e_clear {b0 s : Nat} (hb0 : St b0) (hs : s < 8) : Ct ad μX8_clearSide (d + 1) [.ref (ad b0), .int (nI s)] m (fun r m' => r = none ∧ clrP b0 s m m') := by
  have L : ∀ (j a : Nat) (m1 : Wm), a + j = 4 → (∀ k, m1.1 (b0 + 1) k = if 4 * s ≤ k ∧ k < 4 * s + a then 0 else m.1 (b0 + 1) k) → (∀ c k, c ≠ b0 + 1 → m1.1 c k = m.1 c k) → m1.2 = m.2 →
      AW ad E0 μX8_clearSide (d + 1) (fun r m' => r = none ∧ clrP b0 s m m') 2 [(0, .ref (ad b0)), (1, .int (nI s)), (2, .int (nI a))] [] m1 := by
    intro j
    induction j with
    | zero =>
      intro a m1 ha h1 h2 h3
      obtain rfl : a = 4 := ha
      have v := nat_in hs (show (8 : Nat) < 2147483648 by decide)
      refine g_X8_clearSide_2 hb0 ⟨fun _ => ⟨v, v, v, rfl, fun k => ?_, fun j t hj1 hj2 => ?_, fun a k ha => ?_, h3⟩, fun c => absurd ((le_l 4 4 rfl (by omega) (by omega)).mpr (by omega)) c⟩
      · exact (u_ne (by omega)).trans ((u_ne (by omega)).trans ((u_ne (by omega)).trans (h1 k)))
      · rw [nI_clamp (by omega)]
        have hj : j = 2 ∨ j = 3 ∨ j = 4 := by omega
        by_cases hts : t = s
        · rw [if_pos hts, hts]
          rcases hj with rfl | rfl | rfl
          · exact (u_ne (by omega)).trans ((u_ne (by omega)).trans u_eq)
          · exact (u_ne (by omega)).trans u_eq
          · exact u_eq
        · rw [if_neg hts]
          exact (u_ne (fun q => hts q.2)).trans ((u_ne (fun q => hts q.2)).trans ((u_ne (fun q => hts q.2)).trans (h2 _ _ (by omega))))
      · exact (u_ne (by omega)).trans ((u_ne (by omega)).trans ((u_ne (by omega)).trans (h2 _ _ (by omega))))
    | succ j ih =>
      intro a m1 ha h1 h2 h3
      refine g_X8_clearSide_2 hb0 ⟨fun c => absurd ((le_l 4 4 rfl (by omega) (by omega)).mp c) (by omega), fun _ => (e_putS (i := 4 * s + a) hb0 (by rw [mul_l 4 4 rfl, nI_add, Nat.mul_comm s 4]) (by omega)).to ?_⟩
      rintro _ m2 ⟨rfl, e⟩
      subst e
      refine ⟨rfl, ?_⟩
      rw [nI_1]
      refine ih (a + 1) _ (by omega) (fun k => ?_) (fun c k hc => (u_ne (fun q => hc q.1)).trans (h2 c k hc)) h3
      by_cases hk : k = 4 * s + a
      · rw [hk, if_pos (by omega)]
        exact u_eq
      · refine (u_ne (fun q => hk q.2)).trans ((h1 k).trans ?_)
        by_cases hc : 4 * s ≤ k ∧ k < 4 * s + a
        · rw [if_pos hc, if_pos (by omega)]
        · rw [if_neg hc, if_neg (by omega)]
  exact v_X8_clearSide hb0 (L 4 0 m rfl (fun k => by rw [if_neg (by omega)]) (fun _ _ _ => rfl) rfl)
theorem clr16 {s : Nat} {m' : Wm} (h : clrP 16 s m m') (w : WT m) : WT m' ∧ Fx (RS [3]) m m' := by
  obtain ⟨h1, h2, h3, h4⟩ := h
  have hr : ∀ a k, ¬ RS [3] a k → a < 17 ∨ 20 < a := by
    intro a k hk
    by_cases q : a < 17 ∨ 20 < a
    · exact q
    · have : a = 17 ∨ a = 18 ∨ a = 19 ∨ a = 20 := by omega
      rcases this with rfl | rfl | rfl | rfl <;> exact absurd rfl hk
  have ht : ∀ a k, TY a k ≠ none → a < 17 ∨ 20 < a := by
    intro a k hk
    by_cases q : a < 17 ∨ 20 < a
    · exact q
    · have : a = 17 ∨ a = 18 ∨ a = 19 ∨ a = 20 := by omega
      rcases this with rfl | rfl | rfl | rfl <;> exact absurd rfl hk
  exact ⟨w.same (fun a k hk => h3 a k (ht a k hk)) (by rw [h4]), fun a k hk => ⟨h3 a k (hr a k hk), by rw [h4], by rw [h4]⟩⟩
end CPY
/-- what the draft and the reader's numbers hold; m0: the world when the reading began -/
def lcV (st dg sd ar fr : Nat) (wp : Bool) : Prop := st ≤ 3 ∧ sd ≤ 8 ∧ 1 ≤ ar ∧ ar ≤ 4 ∧ fr ≤ sd ∧ (st = 2 → fr < sd ∧ dg ≤ ar) ∧ (wp = true → fr = 0)
def LC (m0 : Wm) (HZ : Prop) (st dg ln sd ar fr : Nat) (wp : Bool) (il : Nat → Bool) (sk : Nat → Int32) (m : Wm) : Prop :=
  m.1 15 6 = nI st ∧ (st = 2 → m.1 15 5 = nI dg) ∧ m.1 15 4 = nI ln ∧ m.1 15 1 = nI sd ∧ m.1 15 2 = nI ar ∧ m.1 15 7 = (if wp = true then 1 else 0) ∧ m.1 16 4 = m0.1 21 4 ∧
  (HZ → ∀ s, s < 8 → bt (m.1 15 3) s = (decide (s < sd) && il s)) ∧ (∀ k, k < 32 → m.1 17 k = sk k) ∧
  (∀ j s, 2 ≤ j → j ≤ 4 → s < 8 → m.1 (16 + j) s = if s < fr ∨ (wp = false ∧ sd ≤ s) then m0.1 (21 + j) s else 0)
def LCT (m0 : Wm) (HZ : Prop) : LgSt → Wm → Prop
  | (st, dg, ln, sd, ar, fr, wp, il, sk), m => lcV st dg sd ar fr wp ∧ LC m0 HZ st dg ln sd ar fr wp il sk m
def LCQ (m0 : Wm) (HZ : Prop) (c : Int32) (st dg ln sd ar fr : Nat) (wp : Bool) (il : Nat → Bool) (sk : Nat → Int32) (r : Option Value) (m' : Wm) : Prop :=
  WT m' ∧ Fx (RS [3]) m0 m' ∧ ((r = some (.int 1) ∧ ∃ L, lst c st dg ln sd ar fr wp il sk = some L ∧ LCT m0 HZ L m') ∨ (r = some (.int 0) ∧ lst c st dg ln sd ar fr wp il sk = none))
section LCR
variable {ad : Nat → Nat} {d : Nat} {m m0 : Wm} {HZ : Prop} {c : Int32} {st dg ln sd ar fr : Nat} {wp : Bool} {il : Nat → Bool} {sk : Nat → Int32}
theorem lt7 {x : Int32} (h : ¬ (0 ≤ x.toInt ∧ x.toInt ≤ 7)) : x < 0 ∨ (¬ x < 0 ∧ ¬ x ≤ 7) := by
  by_cases h0 : x < 0
  · exact Or.inl h0
  · refine Or.inr ⟨h0, fun q => h ⟨?_, ?_⟩⟩
    · exact y_nltr (n := 0) rfl h0
    · exact y_ler (n := 7) rfl q
/-- a skill's sign: into the draft, or not one -/
theorem e_takeSkill (w : WT m) (f : Fx (RS [3]) m0 m) (hs : m.1 15 1 = nI (sd + 1)) (hd : m.1 15 5 = nI dg) (hb : 4 * sd + dg < 32) : Ct ad μX4_takeSkill (d + 1) [.ref (ad 15), .int (c - 48)] m (fun r m' => WT m' ∧ Fx (RS [3]) m0 m' ∧
    ((0 ≤ (c - 48).toInt ∧ (c - 48).toInt ≤ 7 ∧ r = some (.int 1) ∧ m' = uI (uI m 17 (4 * sd + dg) (c - 48)) 15 5 (nI (dg + 1))) ∨ (¬ (0 ≤ (c - 48).toInt ∧ (c - 48).toInt ≤ 7) ∧ r = some (.int 0) ∧ m' = m))) := by
  by_cases hg : 0 ≤ (c - 48).toInt ∧ (c - 48).toInt ≤ 7
  · have z7 : (7 : Int32).toInt = 7 := rfl
    have z0 : (0 : Int32).toInt = 0 := rfl
    refine v_X4_takeSkill ⟨fun q => absurd (z_lt q) (by omega), fun _ => ⟨fun _ => ?_, fun q => absurd ((fa_le _ _).mpr (by omega)) q⟩⟩
    rw [hs, hd, nI_pred]
    refine (e_putS (i := 4 * sd + dg) St_16 (by rw [mul_l 4 4 rfl, nI_add, Nat.mul_comm sd 4]) hb).to ?_
    rintro _ m1 ⟨rfl, e⟩
    subst e
    refine ⟨rfl, ?_⟩
    have e5 : (uI m (16 + 1) (4 * sd + dg) (c - 48)).1 15 5 = nI dg := hd
    rw [e5, nI_1]
    exact ⟨(w.n rfl).n rfl, (f.i rfl).i rfl, Or.inl ⟨hg.1, hg.2, rfl, rfl⟩⟩
  · rcases lt7 hg with h | ⟨h1, h2⟩
    · exact v_X4_takeSkill ⟨fun _ => ⟨w, f, Or.inr ⟨hg, rfl, rfl⟩⟩, fun q => absurd h q⟩
    · exact v_X4_takeSkill ⟨fun q => absurd q h1, fun _ => ⟨fun q => absurd q h2, fun _ => ⟨w, f, Or.inr ⟨hg, rfl, rfl⟩⟩⟩⟩
theorem e_canEnd (V : lcV st dg sd ar fr wp) (C : LC m0 HZ st dg ln sd ar fr wp il sk m) : Ct ad μX4_canEnd d [.ref (ad 15)] m (fun r m' => m' = m ∧ r = some (.int (if lEnd st dg ar then 1 else 0))) := by
  obtain ⟨c1, c2, c3, c4, c5, c6⟩ := C
  obtain ⟨V1, V2, V3, V4, V5, V6, V7⟩ := V
  refine v_X4_canEnd ?_
  rw [c1, c5]
  have e3 : nI st = 3 ↔ st = 3 := nI_eq (a := st) (b := 3) (by omega) (by decide)
  have e2 : nI st = 2 ↔ st = 2 := nI_eq (a := st) (b := 2) (by omega) (by decide)
  refine ⟨fun q => ?_, fun q => ⟨fun q2 => ?_, fun q2 => ⟨fun q3 => ?_, fun q3 => ?_⟩⟩⟩
  · rw [if_pos (Or.inl (e3.mp q))]; exact ⟨rfl, rfl⟩
  · rw [if_neg (fun z => by rcases z with z | z; exact q (e3.mpr z); exact q2 (e2.mpr z.1))]; exact ⟨rfl, rfl⟩
  · have h2 := e2.mp q2
    rw [c2 h2] at q3
    rw [if_neg (fun z => by rcases z with z | z; exact q (e3.mpr z); exact q3 (by rw [z.2]))]; exact ⟨rfl, rfl⟩
  · have h2 := e2.mp q2
    rw [c2 h2] at q3
    have hda := V6 h2
    rw [if_pos (Or.inr ⟨h2, (nI_eq (by omega) (by omega)).mp q3⟩)]; exact ⟨rfl, rfl⟩
theorem e_takeLine (w : WT m) (f : Fx (RS [3]) m0 m) (V : lcV 0 dg sd ar fr wp) (C : LC m0 HZ 0 dg ln sd ar fr wp il sk m) : Ct ad μX4_takeLine (d + 2) [.ref (ad 15), .int c] m (LCQ m0 HZ c 0 dg ln sd ar fr wp il sk) := by
  obtain ⟨V1, V2, V3, V4, V5, V6, V7⟩ := V
  obtain ⟨c1, c2, c3, c4, c5, c6, c7, c8, c9, c10⟩ := C
  refine v_X4_takeLine ⟨fun h119 => ?_, fun h119 => ?_⟩
  · have e1 : (uI m 15 4 ((m.1 15 4) + (1 : Int32))).1 15 1 = nI sd := c4
    rw [e1]
    refine ⟨fun h8 => ?_, fun h8 => ?_⟩
    · have sd7 : sd < 8 := (l_lt 8 8 rfl (by decide) (by omega)).mp h8
      rw [nI_1 sd]
      have e2 : (uI (uI (uI m 15 4 ((m.1 15 4) + (1 : Int32))) 15 1 (nI (sd + 1))) 15 5 (0 : Int32)).1 15 1 = nI (sd + 1) := rfl
      rw [e2, nI_pred, c3, nI_1 ln]
      have wa : WT (uI (uI (uI m 15 4 (nI (ln + 1))) 15 1 (nI (sd + 1))) 15 5 (0 : Int32)) := ((w.n rfl).t rfl (by rw [nI_toInt (by omega)]; omega) (by rw [nI_toInt (by omega)]; omega)).n rfl
      have fa : Fx (RS [3]) m0 (uI (uI (uI m 15 4 (nI (ln + 1))) 15 1 (nI (sd + 1))) 15 5 (0 : Int32)) := ((f.i rfl).i rfl).i rfl
      refine (e_clear St_16 sd7).to ?_
      rintro _ m1 ⟨rfl, P⟩
      obtain ⟨w1, f1⟩ := clr16 P wa
      obtain ⟨p1, p2, p3, p4⟩ := P
      refine ⟨rfl, ?_⟩
      have wb : WT (uI m1 15 6 (2 : Int32)) := w1.n rfl
      have fb : Fx (RS [3]) m0 (uI m1 15 6 (2 : Int32)) := (fa.tr f1 (RS_sub rfl)).i rfl
      have g1 : (uI m1 15 6 (2 : Int32)).1 15 1 = nI (sd + 1) := p3 15 1 (by omega)
      have g5 : (uI m1 15 6 (2 : Int32)).1 15 5 = nI 0 := p3 15 5 (by omega)
      refine (e_takeSkill (m0 := m0) (dg := 0) (sd := sd) wb fb g1 g5 (by omega)).to ?_
      rintro r m2 ⟨w2, f2, h⟩
      rcases h with ⟨h0, h7, rfl, e⟩ | ⟨hn, rfl, e⟩
      · subst e
        refine ⟨1, rfl, bz_1, w2, f2, Or.inl ⟨rfl, _, (lst_open h119 sd7 V3).trans (lst_d ⟨h0, h7⟩ (by omega)), ⟨by decide, by omega, V3, V4, by omega, fun _ => ⟨by omega, by omega⟩, V7⟩, rfl, fun _ => rfl, p3 15 4 (by omega), g1, (p3 15 2 (by omega)).trans c5, (p3 15 7 (by omega)).trans c6, (p3 16 4 (by omega)).trans c7, fun hz s hs => ?_, fun k hk => ?_, fun j s h1 h2 hs => ?_⟩⟩
        · have e3 : (uI (uI (uI m1 15 6 (2 : Int32)) 17 (4 * sd + 0) (c - 48)) 15 5 (nI (0 + 1))).1 15 3 = m.1 15 3 := p3 15 3 (by omega)
          rw [e3, c8 hz s hs]
          by_cases hss : s = sd
          · subst hss
            simp [updB]
          · have e4 : updB il sd false s = il s := by simp [updB, hss]
            rw [e4]
            congr 1
            exact decide_eq_decide.mpr (by omega)
        · show _ = (if k = 4 * (sd + 1 - 1) + 0 then c - 48 else clr4 sk sd k)
          rw [Nat.add_sub_cancel]
          by_cases hk2 : k = 4 * sd + 0
          · rw [if_pos hk2, hk2]
            exact (u_ne (by omega)).trans u_eq
          · rw [if_neg hk2]
            refine (u_ne (by omega)).trans ((u_ne (fun q => hk2 q.2)).trans ((u_ne (by omega)).trans ((p1 k).trans ?_)))
            unfold clr4
            by_cases hk3 : 4 * sd ≤ k ∧ k < 4 * sd + 4
            · rw [if_pos hk3, if_pos hk3]
            · rw [if_neg hk3, if_neg hk3]
              exact c9 k hk
        · refine (u_ne (by omega)).trans ((u_ne (by omega)).trans ((u_ne (by omega)).trans ((p2 j s h1 h2).trans ?_)))
          by_cases hss : s = sd
          · rw [if_pos hss, if_neg (by omega)]
          · rw [if_neg hss]
            refine (u_ne (by omega)).trans ((u_ne (by omega)).trans ((u_ne (by omega)).trans ((c10 j s h1 h2 hs).trans ?_)))
            by_cases hq : s < fr ∨ (wp = false ∧ sd ≤ s)
            · rw [if_pos hq, if_pos (by rcases hq with q | q; exact Or.inl q; exact Or.inr ⟨q.1, by omega⟩)]
            · rw [if_neg hq, if_neg (fun z => hq (by rcases z with q | q; exact Or.inl q; exact Or.inr ⟨q.1, by omega⟩))]
      · exact ⟨0, rfl, bz_0, w2, f2, Or.inr ⟨rfl, (lst_open h119 sd7 V3).trans (lst_dn hn (by omega))⟩⟩
    · have sd8 : ¬ sd < 8 := fun q => h8 ((l_lt 8 8 rfl (by decide) (by omega)).mpr q)
      exact ⟨w.n rfl, f.i rfl, Or.inr ⟨rfl, lst_8 h119 sd8⟩⟩
  · subst h119
    refine ⟨(w.n rfl).n rfl, (f.i rfl).i rfl, Or.inl ⟨rfl, _, lst_w, ⟨by decide, V2, V3, V4, V5, fun q => absurd q (by decide), V7⟩, rfl, fun q => absurd q (by decide), ?_, c4, c5, c6, c7, c8, fun k hk => c9 k hk, fun j s h1 h2 hs => (u_ne (by omega)).trans ((u_ne (by omega)).trans (c10 j s h1 h2 hs))⟩⟩
    show m.1 15 4 + 1 = _
    rw [c3, nI_1]
theorem e_takeArts (w : WT m) (f : Fx (RS [3]) m0 m) (V : lcV 1 dg sd ar fr wp) (C : LC m0 HZ 1 dg ln sd ar fr wp il sk m) : Ct ad μX4_takeArts (d + 2) [.ref (ad 15), .int (c - 48)] m (LCQ m0 HZ c 1 dg ln sd ar fr wp il sk) := by
  obtain ⟨c1, c2, c3, c4, c5, c6, c7, c8, c9, c10⟩ := C
  have bad : ¬ (1 ≤ (c - 48).toInt ∧ (c - 48).toInt ≤ 4) → LCQ m0 HZ c 1 dg ln sd ar fr wp il sk (some (.int 0)) m := fun h => ⟨w, f, Or.inr ⟨rfl, lst_an h⟩⟩
  refine v_X4_takeArts ⟨fun q => bad (fun z => ?_), fun q => ⟨fun q2 => ?_, fun q2 => bad (fun z => ?_)⟩⟩
  · have := y_ltr (n := 1) rfl q; omega
  · have g1 := y_nltr (n := 1) rfl q
    have g2 := y_ler (n := 4) rfl q2
    obtain ⟨v, hv, ev⟩ := zn_of (x := c - 48) (by omega)
    have tv : (c - 48).toInt = v := by rw [ev, nI_toInt hv]
    have cv : (c - 48).toNatClampNeg = v := by rw [ev, nI_clamp hv]
    have L : ∀ (j s : Nat) (m1 : Wm), s + j = 8 → WT m1 → Fx (RS [3]) m0 m1 → (∀ k, m1.1 15 k = m.1 15 k) → m1.1 16 4 = m.1 16 4 → (∀ k, k < 4 * s → m1.1 17 k = 0) → (∀ j t, 2 ≤ j → j ≤ 4 → t < s → m1.1 (16 + j) t = 0) →
        AW ad E0 μX4_takeArts (d + 2) (LCQ m0 HZ c 1 dg ln sd ar fr wp il sk) 14 [(0, .ref (ad 15)), (1, .int (c - 48)), (2, .int (nI s))] [] m1 := by
      intro j
      induction j with
      | zero =>
        intro s m1 hs w1 f1 r1 r2 r3 r4
        obtain rfl : s = 8 := hs
        refine g_X4_takeArts_14 ⟨fun _ => ⟨((((w1.n rfl).t rfl (by decide) (by decide)).t rfl (by omega) (by omega)).n rfl).n rfl, ((((f1.i rfl).i rfl).i rfl).i rfl).i rfl, Or.inl ⟨rfl, _, lst_a ⟨g1, g2⟩, ?_⟩⟩, fun c => absurd ((le_l 8 8 rfl (by omega) (by omega)).mpr (by omega)) c⟩
        rw [cv]
        refine ⟨⟨by decide, by decide, by omega, by omega, by decide, fun q => absurd q (by decide), fun _ => rfl⟩, rfl, fun q => absurd q (by decide), (r1 4).trans c3, rfl, ev, rfl, r2.trans c7, fun _ s hs => ?_, fun k hk => r3 k (by omega), fun j s h1 h2 hs => ?_⟩
        · show bt 0 s = _
          rw [b_0]
          simp
        · rw [if_neg (by simp)]
          exact (u_ne (by omega)).trans ((u_ne (by omega)).trans ((u_ne (by omega)).trans ((u_ne (by omega)).trans ((u_ne (by omega)).trans (r4 j s h1 h2 (by omega))))))
      | succ j ih =>
        intro s m1 hs w1 f1 r1 r2 r3 r4
        refine g_X4_takeArts_14 ⟨fun c => absurd ((le_l 8 8 rfl (by omega) (by omega)).mp c) (by omega), fun _ => (e_clear St_16 (by omega)).to ?_⟩
        rintro _ m2 ⟨rfl, P⟩
        obtain ⟨w2, f2⟩ := clr16 P w1
        obtain ⟨p1, p2, p3, p4⟩ := P
        refine ⟨rfl, ?_⟩
        rw [nI_1]
        refine ih (s + 1) m2 (by omega) w2 (f1.tr f2 (RS_sub rfl)) (fun k => (p3 15 k (by omega)).trans (r1 k)) ((p3 16 4 (by omega)).trans r2) (fun k hk => ?_) (fun j t h1 h2 ht => ?_)
        · refine (p1 k).trans ?_
          by_cases hk2 : 4 * s ≤ k ∧ k < 4 * s + 4
          · rw [if_pos hk2]
          · rw [if_neg hk2]; exact r3 k (by omega)
        · refine (p2 j t h1 h2).trans ?_
          by_cases hts : t = s
          · rw [if_pos hts]
          · rw [if_neg hts]; exact r4 j t h1 h2 (by omega)
    exact L 8 0 m rfl w f (fun _ => rfl) rfl (fun k hk => absurd hk (by omega)) (fun j t _ _ ht => absurd ht (by omega))
  · have := y_nler (n := 4) rfl q2; omega
theorem e_takeIll (w : WT m) (f : Fx (RS [3]) m0 m) (V : lcV 2 ar sd ar fr wp) (C : LC m0 HZ 2 ar ln sd ar fr wp il sk m) (hc : c ≠ 59) : Ct ad μX4_takeIll d [.ref (ad 15), .int c] m (LCQ m0 HZ c 2 ar ln sd ar fr wp il sk) := by
  obtain ⟨V1, V2, V3, V4, V5, V6, V7⟩ := V
  obtain ⟨c1, c2, c3, c4, c5, c6, c7, c8, c9, c10⟩ := C
  have hsd : fr < sd := (V6 rfl).1
  refine v_X4_takeIll ⟨fun q => ⟨w, f, Or.inr ⟨rfl, lst_en (Or.inr ⟨rfl, rfl⟩) hc (fun _ => q)⟩⟩, fun q => ?_⟩
  subst q
  rw [c4]
  refine ⟨fun _ => ⟨(w.n rfl).n rfl, (f.i rfl).i rfl, Or.inl ⟨rfl, _, lst_i, ⟨by decide, V2, V3, V4, V5, fun q => absurd q (by decide), V7⟩, rfl, fun q => absurd q (by decide), c3, c4, c5, c6, c7, fun hz s hs => ?_, fun k hk => c9 k hk, fun j s h1 h2 hs => (u_ne (by omega)).trans ((u_ne (by omega)).trans (c10 j s h1 h2 hs))⟩⟩, fun q => ?_⟩
  · show bt (m.1 15 3 ||| ((1 : Int32) <<< ((nI sd - 1) &&& 31))) s = _
    have e1 : nI sd - 1 = nI (sd - 1) := by
      have : sd = (sd - 1) + 1 := by omega
      rw [this, nI_pred, Nat.add_sub_cancel]
    rw [e1, b_or, c8 hz s hs, b_shl (sd - 1) (by omega) 1 (by omega)]
    have b1 : ∀ i : Fin 32, bt 1 i.val = decide (i.val = 0) := by decide +kernel
    have b1' : bt 1 (s - (sd - 1)) = decide (s - (sd - 1) = 0) := b1 ⟨s - (sd - 1), by omega⟩
    rw [b1']
    unfold updB
    by_cases hss : s = sd - 1
    · subst hss
      simp
      omega
    · rw [if_neg hss]
      by_cases hlt : s < sd
      · have e2 : decide (sd - 1 ≤ s) = false := decide_eq_false (by omega)
        rw [e2]; simp
      · have e2 : decide (s - (sd - 1) = 0) = false := decide_eq_false (by omega)
        rw [e2]; simp
  · have := (nI_eq (a := sd) (b := 0) (by omega) (by decide)).mp q
    omega
theorem e_take (w : WT m) (f : Fx (RS [3]) m0 m) (V : lcV st dg sd ar fr wp) (C : LC m0 HZ st dg ln sd ar fr wp il sk m) : Ct ad μX4_take (d + 3) [.ref (ad 15), .int c] m (LCQ m0 HZ c st dg ln sd ar fr wp il sk) := by
  have V0 := V
  have C0 := C
  obtain ⟨V1, V2, V3, V4, V5, V6, V7⟩ := V
  obtain ⟨c1, c2, c3, c4, c5, c6, c7, c8, c9, c10⟩ := C
  have wide : ∀ r m', (∃ v : Int32, r = some (Value.int v) ∧ LCQ m0 HZ c st dg ln sd ar fr wp il sk (some (.int v)) m') ∨ LCQ m0 HZ c st dg ln sd ar fr wp il sk r m' → ∃ v : Int32, r = some (Value.int v) ∧ (bz v ∧ LCQ m0 HZ c st dg ln sd ar fr wp il sk (some (.int v)) m') := by
    intro r m' h
    have key : LCQ m0 HZ c st dg ln sd ar fr wp il sk r m' := by
      rcases h with ⟨v, rfl, h⟩ | h
      · exact h
      · exact h
    obtain ⟨k1, k2, k3⟩ := key
    rcases k3 with ⟨rfl, k4⟩ | ⟨rfl, k4⟩
    · exact ⟨1, rfl, bz_1, k1, k2, Or.inl ⟨rfl, k4⟩⟩
    · exact ⟨0, rfl, bz_0, k1, k2, Or.inr ⟨rfl, k4⟩⟩
  have g20 : ¬ (c = 59 ∧ lEnd st dg ar) → AW ad E0 μX4_take (d + 3) (LCQ m0 HZ c st dg ln sd ar fr wp il sk) 20 [(0, .ref (ad 15)), (1, .int c)] [] m := by
    intro hn
    have i0 : nI st = 0 ↔ st = 0 := nI_eq (a := st) (b := 0) (by omega) (by decide)
    have i1 : nI st = 1 ↔ st = 1 := nI_eq (a := st) (b := 1) (by omega) (by decide)
    have i2 : nI st = 2 ↔ st = 2 := nI_eq (a := st) (b := 2) (by omega) (by decide)
    refine g_X4_take_20 ?_
    rw [c1]
    refine ⟨fun q => ?_, fun q => ?_, fun q => ⟨fun qa => ?_, fun qa => ?_⟩, fun q0 q1 q2 => ?_⟩
    · obtain rfl := i0.mp q
      exact (e_takeLine w f V0 C0).to (fun r m' h => wide r m' (Or.inr h))
    · obtain rfl := i1.mp q
      exact (e_takeArts (d := d) w f V0 C0).to (fun r m' h => wide r m' (Or.inr h))
    · obtain rfl := i2.mp q
      rw [c5, c2 rfl] at qa
      have hda := V6 rfl
      have := (nI_leI (by omega) (by omega)).mp qa
      obtain rfl : dg = ar := by omega
      exact (e_takeIll w f V0 C0 (fun z => hn ⟨z, Or.inr ⟨rfl, rfl⟩⟩)).to (fun r m' h => wide r m' (Or.inr h))
    · obtain rfl := i2.mp q
      rw [c5, c2 rfl] at qa
      have hda := V6 rfl
      have hlt : dg < ar := Nat.lt_of_not_le (fun z => qa ((nI_leI (by omega) (by omega)).mpr z))
      obtain ⟨sd', rfl⟩ : ∃ sd', sd = sd' + 1 := ⟨sd - 1, by omega⟩
      refine (e_takeSkill (m0 := m0) (dg := dg) (sd := sd') w f c4 (c2 rfl) (by omega)).to ?_
      rintro r m2 ⟨w2, f2, h⟩
      rcases h with ⟨h0, h7, rfl, e⟩ | ⟨hnn, rfl, e⟩
      · subst e
        refine ⟨1, rfl, bz_1, w2, f2, Or.inl ⟨rfl, _, lst_d ⟨h0, h7⟩ hlt, ⟨by decide, V2, V3, V4, V5, fun _ => ⟨hda.1, by omega⟩, V7⟩, c1, fun _ => rfl, c3, c4, c5, c6, c7, c8, fun k hk => ?_, fun j s h1 h2 hs => (u_ne (by omega)).trans ((u_ne (by omega)).trans (c10 j s h1 h2 hs))⟩⟩
        show _ = (if k = 4 * (sd' + 1 - 1) + dg then c - 48 else sk k)
        rw [Nat.add_sub_cancel]
        by_cases hk2 : k = 4 * sd' + dg
        · rw [if_pos hk2, hk2]
          exact (u_ne (by omega)).trans u_eq
        · rw [if_neg hk2]
          exact (u_ne (by omega)).trans ((u_ne (fun q => hk2 q.2)).trans (c9 k hk))
      · exact ⟨0, rfl, bz_0, w2, f2, Or.inr ⟨rfl, lst_dn hnn hlt⟩⟩
    · have h3 : st = 3 := by
        have a0 : st ≠ 0 := fun z => q0 (i0.mpr z)
        have a1 : st ≠ 1 := fun z => q1 (i1.mpr z)
        have a2 : st ≠ 2 := fun z => q2 (i2.mpr z)
        omega
      subst h3
      exact ⟨w, f, Or.inr ⟨rfl, lst_en (Or.inl rfl) (fun z => hn ⟨z, Or.inl rfl⟩) (fun z => absurd z (by decide))⟩⟩
  refine v_X4_take (d := d + 2) ⟨fun q => g20 (fun z => q z.1), fun q => ?_⟩
  subst q
  refine (e_canEnd V0 C0).to ?_
  rintro _ m' ⟨eq, rfl⟩
  obtain rfl := eq.symm
  by_cases hE : lEnd st dg ar
  · refine ⟨1, by rw [if_pos hE], fun z => absurd z (by decide), fun _ => ⟨w.n rfl, f.i rfl, Or.inl ⟨rfl, _, lst_c hE, ⟨by decide, V2, V3, V4, V5, fun q => absurd q (by decide), V7⟩, rfl, fun q => absurd q (by decide), c3, c4, c5, c6, c7, c8, fun k hk => c9 k hk, fun j s h1 h2 hs => (u_ne (by omega)).trans (c10 j s h1 h2 hs)⟩⟩⟩
  · exact ⟨0, by rw [if_neg hE], fun _ => g20 (fun z => hE z.2), fun z => absurd rfl z⟩
end LCR
end
section
/-! THE CLASS'S league() -/
section LCL
variable {ad : Nat → Nat} {d : Nat} {m : Wm}
theorem minT_i {t : Nat} (ht : t ≤ 80) : (if (76 : Int32) < nI t then (76 : Int32) else nI t) = nI (minT t 76) := by
  unfold minT
  by_cases h : t < 76
  · rw [if_neg (fun q => by have := (lt_l 76 76 rfl (by decide) (by omega)).mp q; omega), if_pos h]
  · rw [if_neg h]
    by_cases h2 : 76 < t
    · rw [if_pos ((lt_l 76 76 rfl (by decide) (by omega)).mpr h2)]
      rfl
    · have : t = 76 := by omega
      subst this
      rw [if_neg (by decide)]
def rdQ (m : Wm) (HZ : Prop) (O : Nat ⊕ LgSt) (r : Option Value) (m' : Wm) : Prop := WT m' ∧ Fx (RS [3]) m m' ∧ (∀ q, O = .inl q → r = some (.int (nI q)) ∧ q ≤ 76) ∧ ∀ L, O = .inr L → r = some (.int (-1)) ∧ LCT m HZ L m'
theorem e_read {n a0 t : Nat} {sk0 : Nat → Int32} {HZ : Prop} {il0 : Nat → Bool} (w : WT m) (hn : m.1 3 3 = nI n) (hn8 : n ≤ 8) (ha0 : m.1 3 4 = nI a0) (h1 : 1 ≤ a0) (h4 : a0 ≤ 4) (ht : m.1 1 1 = nI t) (ht80 : t ≤ 80) (hsk : ∀ k, k < 32 → m.1 22 k = sk0 k) (hil : HZ → ∀ s, s < 8 → bt (m.1 3 5) s = (decide (s < n) && il0 s)) :
    Ct ad μX4_read (d + 4) [.ref (ad 15), .ref (ad 1), .ref (ad 3), .ref (ad 21)] m (rdQ m HZ (LO (m.1 2) (decide (76 < t)) (minT t 76) 0 (0, 0, 0, n, a0, n, false, il0, sk0))) := by
  generalize hO0 : LO (m.1 2) (decide (76 < t)) (minT t 76) 0 (0, 0, 0, n, a0, n, false, il0, sk0) = O
  have e76 : minT t 76 ≤ 76 := by unfold minT; split <;> omega
  have et : minT t 76 ≤ t := by unfold minT; split <;> omega
  have L : ∀ (k p st dg ln sd ar fr : Nat) (wp : Bool) (il : Nat → Bool) (sk : Nat → Int32) (m1 : Wm), minT t 76 - p < k → p ≤ minT t 76 → WT m1 → Fx (RS [3]) m m1 → lcV st dg sd ar fr wp → LC m HZ st dg ln sd ar fr wp il sk m1 → LO (m.1 2) (decide (76 < t)) (minT t 76 - p) p (st, dg, ln, sd, ar, fr, wp, il, sk) = O →
      AW ad E0 μX4_read (d + 4) (rdQ m HZ O) 61 [(0, .ref (ad 15)), (1, .ref (ad 1)), (4, .int (nI (minT t 76))), (5, .int (nI p))] [] m1 := by
    intro k
    induction k with
    | zero => intros; omega
    | succ k ih =>
      intro p st dg ln sd ar fr wp il sk m1 hk hp w1 f1 V C hO
      have t1 : m1.1 1 1 = nI t := (f1.at (a := 1) (k := 1) (by decide)).trans ht
      have t2 : ∀ k, m1.1 2 k = m.1 2 k := fun k => f1.at (a := 2) (k := k) (by show ¬ (([3] : List Nat).elem 0 = true); decide)
      refine g_X4_read_61 ⟨fun c => ?_, fun c => ?_⟩
      · have hpe : p = minT t 76 := by have := (nI_leI (a := minT t 76) (b := p) (by omega) (by omega)).mp c; omega
        rw [t1]
        rw [show minT t 76 - p = 0 by omega] at hO
        refine ⟨fun q => ?_, fun q => (e_canEnd V C).to ?_⟩
        · have q' := (lt_l 76 76 rfl (by decide) (by omega)).mp q
          have hb : decide (76 < t) = true := decide_eq_true q'
          rw [LO_n (by rw [hb]; exact fun z => absurd z.1 (by decide))] at hO
          refine ⟨w1, f1, fun q2 h2 => ?_, fun L2 h2 => ?_⟩
          · rw [h2] at hO; cases hO; exact ⟨by rw [hpe], by omega⟩
          · rw [h2] at hO; cases hO
        · have hb : decide (76 < t) = false := decide_eq_false (fun z => q ((lt_l 76 76 rfl (by decide) (by omega)).mpr z))
          rintro _ m' ⟨eq, rfl⟩
          obtain rfl := eq.symm
          by_cases hE : lEnd st dg ar
          · rw [LO_e ⟨hb, hE⟩] at hO
            refine ⟨1, by rw [if_pos hE], fun _ => ⟨w1, f1, fun q2 h2 => ?_, fun L2 h2 => ?_⟩, fun z => absurd z (by decide)⟩
            · rw [h2] at hO; cases hO
            · rw [h2] at hO; cases hO; exact ⟨rfl, V, C⟩
          · rw [LO_n (fun z => hE z.2)] at hO
            refine ⟨0, by rw [if_neg hE], fun z => absurd rfl z, fun _ => ⟨w1, f1, fun q2 h2 => ?_, fun L2 h2 => ?_⟩⟩
            · rw [h2] at hO; cases hO; exact ⟨by rw [hpe], by omega⟩
            · rw [h2] at hO; cases hO
      · have hpe : p < minT t 76 := Nat.lt_of_not_le (fun z => c ((nI_leI (a := minT t 76) (b := p) (by omega) (by omega)).mpr z))
        rw [nI_clamp (by omega), t2]
        rw [show minT t 76 - p = (minT t 76 - (p + 1)) + 1 by omega] at hO
        refine ⟨nat_in (by omega) (by decide), (e_take (m0 := m) w1 f1 V C).to ?_⟩
        rintro r m2 ⟨w2, f2, h⟩
        rcases h with ⟨rfl, L2, e2, hL⟩ | ⟨rfl, e2⟩
        · rw [LO_s e2] at hO
          obtain ⟨st', dg', ln', sd', ar', fr', wp', il', sk'⟩ := L2
          refine ⟨1, rfl, fun _ => ?_, fun z => absurd z (by decide)⟩
          rw [nI_1]
          exact ih (p + 1) st' dg' ln' sd' ar' fr' wp' il' sk' m2 (by omega) (by omega) w2 f2 hL.1 hL.2 hO
        · rw [LO_f e2] at hO
          refine ⟨0, rfl, fun z => absurd rfl z, fun _ => ⟨w2, f2, fun q2 h2 => ?_, fun L2 h2 => ?_⟩⟩
          · rw [h2] at hO; cases hO; exact ⟨rfl, by omega⟩
          · rw [h2] at hO; cases hO
  refine v_X4_read (d := d + 3) St_21 ((e_copy w SS_16 SS_21 (by omega)).to ?_)
  rintro _ m1 ⟨w1, f1, rfl, k1, k2, k3⟩
  refine ⟨rfl, ?_⟩
  have g33 : m1.1 3 3 = nI n := (f1.at (a := 3) (k := 3) (by decide)).trans hn
  have g34 : m1.1 3 4 = nI a0 := (f1.at (a := 3) (k := 4) (by decide)).trans ha0
  have g35 : m1.1 3 5 = m.1 3 5 := f1.at (a := 3) (k := 5) (by decide)
  have g11 : m1.1 1 1 = nI t := (f1.at (a := 1) (k := 1) (by decide)).trans ht
  have e34 : (uI m1 15 1 (m1.1 3 3)).1 3 4 = nI a0 := g34
  have e35 : (uI (uI m1 15 1 (m1.1 3 3)) 15 2 ((uI m1 15 1 (m1.1 3 3)).1 3 4)).1 3 5 = m.1 3 5 := g35
  rw [e35, e34, g33]
  have e11 : (uI (uI (uI (uI (uI (uI m1 15 1 (nI n)) 15 2 (nI a0)) 15 3 (m.1 3 5)) 15 4 (0 : Int32)) 15 6 (0 : Int32)) 15 7 (0 : Int32)).1 1 1 = nI t := g11
  rw [e11, minT_i ht80]
  have tn0 : (nI n).toInt = n := nI_toInt (by omega)
  have ta0 : (nI a0).toInt = a0 := nI_toInt (by omega)
  refine L 81 0 0 0 0 n a0 n false il0 sk0 _ (by omega) (Nat.zero_le _) ((((((w1.t rfl (by omega) (by omega)).t rfl (by omega) (by omega)).n rfl).n rfl).n rfl).n rfl) ((((((f1.tr (Fx.rf (S := RS [3])) (RS_sub rfl)).i rfl).i rfl).i rfl).i rfl).i rfl |>.i rfl) ⟨by decide, hn8, h1, h4, Nat.le_refl _, fun q => absurd q (by decide), fun q => absurd q (by decide)⟩ ⟨rfl, fun q => absurd q (by decide), rfl, rfl, rfl, rfl, k3, hil, fun k hk => (k1 k hk).trans (hsk k hk), fun j s hj1 hj2 hs => ?_⟩ hO0
  rw [if_pos (by by_cases q : s < n; exact Or.inl q; exact Or.inr ⟨rfl, by omega⟩)]
  exact (u_ne (by omega)).trans ((u_ne (by omega)).trans ((u_ne (by omega)).trans ((u_ne (by omega)).trans ((u_ne (by omega)).trans ((u_ne (by omega)).trans (k2 j s hj1 hj2 hs))))))
/-- what stands behind a league that was taken -/
def lgC (m : Wm) (HZ : Prop) : LgSt → Wm → Prop
  | (_, _, _, sd, ar, fr, wp, il, sk), m' => m'.1 3 3 = nI sd ∧ m'.1 3 4 = nI ar ∧ m'.1 1 1 = 0 ∧ m'.1 31 1 = 0 ∧ (∀ k, k < 2 → m'.1 (173 + 7 * k) 4 = 0) ∧
    (if wp = true then m'.1 0 11 = 0 ∧ m'.1 0 15 = 0 ∧ (∀ P, m.2.2 0 9 = some P → m'.1 P 5 = 0 ∧ m'.1 P 6 = 0) else m'.1 0 11 = m.1 0 11 ∧ m'.1 0 15 = m.1 0 15 ∧ ∀ b k, 133 < b → b < 146 → m'.1 b k = m.1 b k) ∧
    (HZ → ∀ s, s < 8 → bt (m'.1 3 5) s = (decide (s < sd) && il s)) ∧ (∀ k, k < 32 → m'.1 22 k = sk k) ∧ m'.1 21 4 = m.1 21 4 ∧
    (∀ j s, 2 ≤ j → j ≤ 4 → s < 8 → m'.1 (21 + j) s = if s < fr ∨ (wp = false ∧ sd ≤ s) then m.1 (21 + j) s else 0)
theorem e_clearP {b0 : Nat} (hb0 : Pl b0) : Ct ad μX3_clear d [.ref (ad b0)] m (fun r m' => r = none ∧ m' = uI (uI m b0 5 0) b0 6 0) := v_X3_clear hb0 ⟨rfl, rfl⟩
def lcQ (m : Wm) (HZ : Prop) (O : Nat ⊕ LgSt) (r : Option Value) (m' : Wm) : Prop := WT m' ∧ Fx (RS [0, 3, 4, 7, 8, 13, 41, 42, 44, 53]) m m' ∧ (∀ k, m'.1 2 k = m.1 2 k) ∧ (∀ q, O = .inl q → r = some (.int (-1 - nI q)) ∧ m'.1 1 1 = 0 ∧ Fx (RS [0, 3]) m m') ∧
  ∀ st dg ln sd ar fr wp il sk, O = .inr (st, dg, ln, sd, ar, fr, wp, il, sk) → r = some (.int (nI ln)) ∧ lcV st dg sd ar fr wp ∧ lgC m HZ (st, dg, ln, sd, ar, fr, wp, il, sk) m'
theorem rg_7 {b : Nat} (k : Nat) (h1 : 133 < b) (h2 : b < 146) : rg b k = 7 := by
  have h : b = 134 ∨ b = 135 ∨ b = 136 ∨ b = 137 ∨ b = 138 ∨ b = 139 ∨ b = 140 ∨ b = 141 ∨ b = 142 ∨ b = 143 ∨ b = 144 ∨ b = 145 := by omega
  rcases h with rfl | rfl | rfl | rfl | rfl | rfl | rfl | rfl | rfl | rfl | rfl | rfl <;> rfl
theorem e_101 {m5 : Wm} {Q : Option Value → Wm → Prop} (w : WT m5) (h : Q (some (.int (m5.1 15 4))) (uI (uI m5 173 4 0) 180 4 0)) : AW ad E0 μX11_league (d + 1) Q 101 [(0, .ref (ad 0)), (2, .int 0)] [] m5 := by
  refine g_X11_league_101 ⟨fun c => absurd c (by decide), fun _ => ⟨nat_in (k := 0) (by decide) (by decide), 173, w.keepx (k := 0) (by decide), Ke_173, ?_⟩⟩
  refine g_X11_league_101 ⟨fun c => absurd c (by decide), fun _ => ⟨nat_in (k := 1) (by decide) (by decide), 180, w.keepx (k := 1) (by decide), Ke_180, ?_⟩⟩
  exact g_X11_league_101 ⟨fun _ => h, fun c => absurd (by decide) c⟩
theorem e_leagueC {n a0 t : Nat} {sk0 : Nat → Int32} {HZ : Prop} {il0 : Nat → Bool} (w : WT m) (hn : m.1 3 3 = nI n) (hn8 : n ≤ 8) (ha0 : m.1 3 4 = nI a0) (h1 : 1 ≤ a0) (h4 : a0 ≤ 4) (ht : m.1 1 1 = nI t) (ht80 : t ≤ 80) (ht0 : t ≠ 0) (hsk : ∀ k, k < 32 → m.1 22 k = sk0 k) (hil : HZ → ∀ s, s < 8 → bt (m.1 3 5) s = (decide (s < n) && il0 s)) :
    Ct ad μX11_league (d + 5) [.ref (ad 0)] m (lcQ m HZ (LO (m.1 2) (decide (76 < t)) (minT t 76) 0 (0, 0, 0, n, a0, n, false, il0, sk0))) := by
  refine v_X11_league (d := d + 4) ⟨fun _ => (e_read w hn hn8 ha0 h1 h4 ht ht80 hsk hil).to ?_, fun c => ?_⟩
  · generalize LO (m.1 2) (decide (76 < t)) (minT t 76) 0 (0, 0, 0, n, a0, n, false, il0, sk0) = O
    rintro r m1 ⟨w1, f1, hq, hL⟩
    have t2 : ∀ k, m1.1 2 k = m.1 2 k := fun k => f1.at (a := 2) (k := k) (by show ¬ (([3] : List Nat).elem 0 = true); decide)
    have w2 : WT (uI m1 1 1 (0 : Int32)) := w1.t rfl (by decide) (by decide)
    have f2 : Fx (RS [0, 3]) m (uI m1 1 1 (0 : Int32)) := ((Fx.rf (S := RS [0, 3])).tr f1 (RS_sub rfl)).i rfl
    cases hO : O with
    | inl q =>
      obtain ⟨rfl, q76⟩ := hq q hO
      refine ⟨nI q, rfl, fun z => absurd z.symm (m1_ne q (by omega)), fun _ => ⟨w2, (Fx.rf (S := RS [0, 3, 4, 7, 8, 13, 41, 42, 44, 53])).tr f2 (RS_sub rfl), t2, fun q2 h2 => ?_, fun _ _ _ _ _ _ _ _ _ h2 => by cases h2⟩⟩
      cases h2
      exact ⟨rfl, rfl, f2⟩
    | inr L =>
      obtain ⟨rfl, hC⟩ := hL L hO
      obtain ⟨st, dg, ln, sd, ar, fr, wp, il, sk⟩ := L
      obtain ⟨V, C⟩ := hC
      obtain ⟨c1, c2, c3, c4, c5, c6, c7, c8, c9, c10⟩ := C
      have V0 := V
      obtain ⟨V1, V2, V3, V4, V5, V6, V7⟩ := V
      refine ⟨-1, rfl, fun _ => ?_, fun z => absurd rfl z⟩
      refine v_X4_enter (d := d + 3) St_21 ((e_copy w2 SS_21 SS_16 (by omega)).to ?_)
      rintro _ m3 ⟨w3, f3, rfl, k1, k2, k3⟩
      refine ⟨rfl, rfl, ?_⟩
      have g15 : ∀ k, m3.1 15 k = m1.1 15 k := fun k => f3.at (a := 15) (k := k) (by show ¬ (([4] : List Nat).elem 3 = true); decide)
      have tsd : (nI sd).toInt = sd := nI_toInt (by omega)
      have tar : (nI ar).toInt = ar := nI_toInt (by omega)
      have e2 : (uI m3 3 3 (m3.1 15 1)).1 15 2 = nI ar := (g15 2).trans c5
      have e3 : (uI (uI m3 3 3 (m3.1 15 1)) 3 4 ((uI m3 3 3 (m3.1 15 1)).1 15 2)).1 15 3 = m1.1 15 3 := g15 3
      rw [e3, e2, (g15 1).trans c4]
      have w4 : WT (uI (uI (uI m3 3 3 (nI sd)) 3 4 (nI ar)) 3 5 (m1.1 15 3)) := ((w3.t rfl (by omega) (by omega)).t rfl (by omega) (by omega)).n rfl
      have f4 : Fx (RS [0, 3, 4, 41, 42]) m (uI (uI (uI m3 3 3 (nI sd)) 3 4 (nI ar)) 3 5 (m1.1 15 3)) := (((((Fx.rf (S := RS [0, 3, 4, 41, 42])).tr f2 (RS_sub rfl)).tr f3 (RS_sub rfl)).i rfl).i rfl).i rfl
      have e157 : (uI (uI (uI m3 3 3 (nI sd)) 3 4 (nI ar)) 3 5 (m1.1 15 3)).1 15 7 = if wp = true then 1 else 0 := (g15 7).trans c6
      have e154 : (uI (uI (uI m3 3 3 (nI sd)) 3 4 (nI ar)) 3 5 (m1.1 15 3)).1 15 4 = nI ln := (g15 4).trans c3
      have j33 : (uI (uI (uI m3 3 3 (nI sd)) 3 4 (nI ar)) 3 5 (m1.1 15 3)).1 3 3 = nI sd := rfl
      have j34 : (uI (uI (uI m3 3 3 (nI sd)) 3 4 (nI ar)) 3 5 (m1.1 15 3)).1 3 4 = nI ar := rfl
      have j35 : (uI (uI (uI m3 3 3 (nI sd)) 3 4 (nI ar)) 3 5 (m1.1 15 3)).1 3 5 = m1.1 15 3 := rfl
      have j11 : (uI (uI (uI m3 3 3 (nI sd)) 3 4 (nI ar)) 3 5 (m1.1 15 3)).1 1 1 = 0 := f3.at (a := 1) (k := 1) (by decide)
      have j2 : ∀ k, (uI (uI (uI m3 3 3 (nI sd)) 3 4 (nI ar)) 3 5 (m1.1 15 3)).1 2 k = m.1 2 k := fun k => (f3.at (a := 2) (k := k) (by show ¬ (([4] : List Nat).elem 0 = true); decide)).trans (t2 k)
      have j22 : ∀ k, k < 32 → (uI (uI (uI m3 3 3 (nI sd)) 3 4 (nI ar)) 3 5 (m1.1 15 3)).1 22 k = sk k := fun k hk => (k1 k hk).trans (c9 k hk)
      have j21 : (uI (uI (uI m3 3 3 (nI sd)) 3 4 (nI ar)) 3 5 (m1.1 15 3)).1 21 4 = m.1 21 4 := k3.trans c7
      have j23 : ∀ j s, 2 ≤ j → j ≤ 4 → s < 8 → (uI (uI (uI m3 3 3 (nI sd)) 3 4 (nI ar)) 3 5 (m1.1 15 3)).1 (21 + j) s = if s < fr ∨ (wp = false ∧ sd ≤ s) then m.1 (21 + j) s else 0 := fun j s a1 a2 hs => (u_ne (by omega)).trans ((u_ne (by omega)).trans ((u_ne (by omega)).trans ((k2 j s a1 a2 hs).trans ((u_ne (by omega)).trans (c10 j s a1 a2 hs)))))
      generalize uI (uI (uI m3 3 3 (nI sd)) 3 4 (nI ar)) 3 5 (m1.1 15 3) = m4 at w4 f4 e157 e154 j33 j34 j35 j11 j2 j22 j21 j23 ⊢
      rw [e157]
      refine ⟨fun hw => ?_, fun hw => ?_⟩
      · have hwp : wp = false := by
          cases wp with
          | false => rfl
          | true => exact absurd hw (by decide)
        subst hwp
        refine e_101 (d := d + 4) (w4.t rfl (by decide) (by decide)) ⟨((w4.t rfl (by decide) (by decide)).n rfl).n rfl, ((((Fx.rf (S := RS [0, 3, 4, 7, 8, 13, 41, 42, 44, 53])).tr f4 (RS_sub rfl)).i rfl).i rfl).i rfl, j2, fun q hq' => (by cases hq'), fun st' dg' ln' sd' ar' fr' wp' il' sk' hq' => ?_⟩
        cases hq'
        refine ⟨congrArg (fun z => some (Value.int z)) e154, V0, j33, j34, j11, rfl, fun k hk => ?_, ⟨f4.at (a := 0) (k := 11) (by decide), f4.at (a := 0) (k := 15) (by decide), fun b k h1 h2 => ?_⟩, fun hz s hs => (congrArg (fun z => bt z s) j35).trans (c8 hz s hs), fun k hk => j22 k hk, j21, fun j s a1 a2 hs => ?_⟩
        · have hk2 : k = 0 ∨ k = 1 := by omega
          rcases hk2 with rfl | rfl <;> rfl
        · refine (u_ne (by omega)).trans ((u_ne (by omega)).trans ((u_ne (by omega)).trans (f4.at ?_)))
          show ¬ (([0, 3, 4, 41, 42] : List Nat).elem (rg b k) = true)
          rw [rg_7 k h1 h2]
          decide
        · exact (u_ne (by omega)).trans ((u_ne (by omega)).trans ((u_ne (by omega)).trans (j23 j s a1 a2 hs)))
      · have hwp : wp = true := by
          cases wp with
          | true => rfl
          | false => exact absurd rfl hw
        subst hwp
        obtain ⟨P, hP, hPP⟩ := w4.r09
        have hP0 : m.2.2 0 9 = some P := (f4 0 9 (by decide)).2.2.symm.trans hP
        refine ⟨P, hP, Pl_of hPP, (e_clearP (Pl_of hPP)).to ?_⟩
        rintro _ m5 ⟨rfl, e⟩
        subst e
        refine ⟨rfl, ?_⟩
        have w5 : WT (uI (uI (uI (uI (uI m4 P 5 0) P 6 0) 0 11 0) 0 15 0) 31 1 0) := by
          rcases hPP with rfl | rfl
          · exact ((((w4.t rfl (by decide) (by decide)).t rfl (by decide) (by decide)).n rfl).t rfl (by decide) (by decide)).t rfl (by decide) (by decide)
          · exact ((((w4.t rfl (by decide) (by decide)).t rfl (by decide) (by decide)).n rfl).t rfl (by decide) (by decide)).t rfl (by decide) (by decide)
        have f5 : Fx (RS [0, 3, 4, 7, 8, 13, 41, 42, 44, 53]) m (uI (uI (uI (uI (uI m4 P 5 0) P 6 0) 0 11 0) 0 15 0) 31 1 0) := by
          have f4' := (Fx.rf (S := RS [0, 3, 4, 7, 8, 13, 41, 42, 44, 53])).tr f4 (RS_sub rfl)
          rcases hPP with rfl | rfl
          · exact ((((f4'.i rfl).i rfl).i rfl).i rfl).i rfl
          · exact ((((f4'.i rfl).i rfl).i rfl).i rfl).i rfl
        have e154' : (uI (uI (uI (uI (uI m4 P 5 0) P 6 0) 0 11 0) 0 15 0) 31 1 0).1 15 4 = nI ln := by
          rcases hPP with rfl | rfl <;> exact e154
        refine e_101 (d := d + 4) w5 ⟨(w5.n rfl).n rfl, (f5.i rfl).i rfl, fun k => ?_, fun q hq' => (by cases hq'), fun st' dg' ln' sd' ar' fr' wp' il' sk' hq' => ?_⟩
        · rcases hPP with rfl | rfl <;> exact j2 k
        · cases hq'
          refine ⟨congrArg (fun z => some (Value.int z)) e154', V0, ?_⟩
          have hP2 : ∀ P', m.2.2 0 9 = some P' → P' = P := fun P' h => by rw [hP0] at h; cases h; rfl
          have hb : P < 146 ∧ 133 < P := by omega
          refine ⟨?_, ?_, ?_, rfl, fun k hk => ?_, ⟨rfl, rfl, fun P' h => ?_⟩, fun hz s hs => ?_, fun k hk => ?_, ?_, fun j s a1 a2 hs => ?_⟩
          · exact (u_ne (by omega)).trans ((u_ne (by omega)).trans ((u_ne (by omega)).trans ((u_ne (by omega)).trans ((u_ne (by omega)).trans ((u_ne (by omega)).trans ((u_ne (by omega)).trans j33))))))
          · exact (u_ne (by omega)).trans ((u_ne (by omega)).trans ((u_ne (by omega)).trans ((u_ne (by omega)).trans ((u_ne (by omega)).trans ((u_ne (by omega)).trans ((u_ne (by omega)).trans j34))))))
          · exact (u_ne (by omega)).trans ((u_ne (by omega)).trans ((u_ne (by omega)).trans ((u_ne (by omega)).trans ((u_ne (by omega)).trans ((u_ne (by omega)).trans ((u_ne (by omega)).trans j11))))))
          · have hk2 : k = 0 ∨ k = 1 := by omega
            rcases hk2 with rfl | rfl <;> rfl
          · obtain rfl := hP2 P' h
            rcases hPP with rfl | rfl <;> exact ⟨rfl, rfl⟩
          · have e35 : (uI (uI (uI (uI (uI (uI (uI m4 P 5 0) P 6 0) 0 11 0) 0 15 0) 31 1 0) 173 4 0) 180 4 0).1 3 5 = m1.1 15 3 := (u_ne (by omega)).trans ((u_ne (by omega)).trans ((u_ne (by omega)).trans ((u_ne (by omega)).trans ((u_ne (by omega)).trans ((u_ne (by omega)).trans ((u_ne (by omega)).trans j35))))))
            rw [e35]
            exact c8 hz s hs
          · exact (u_ne (by omega)).trans ((u_ne (by omega)).trans ((u_ne (by omega)).trans ((u_ne (by omega)).trans ((u_ne (by omega)).trans ((u_ne (by omega)).trans ((u_ne (by omega)).trans (j22 k hk)))))))
          · exact (u_ne (by omega)).trans ((u_ne (by omega)).trans ((u_ne (by omega)).trans ((u_ne (by omega)).trans ((u_ne (by omega)).trans ((u_ne (by omega)).trans ((u_ne (by omega)).trans j21))))))
          · exact (u_ne (by omega)).trans ((u_ne (by omega)).trans ((u_ne (by omega)).trans ((u_ne (by omega)).trans ((u_ne (by omega)).trans ((u_ne (by omega)).trans ((u_ne (by omega)).trans (j23 j s a1 a2 hs)))))))
  · rw [ht] at c
    exact absurd ((nI_eq (a := t) (b := 0) (by omega) (by decide)).mp c) ht0
end LCL
end
section
/-! SHEETS, exactly -/
def cl7 (x : Int32) : Int32 := if 0 ≤ x then (if x ≤ 7 then x else 7) else 0
def shE (kind x : Int32) : Int32 := if kind = 0 then x.toInt8.toInt32 else if kind = 1 then x.toInt16.toInt32 else x
def shV (kind n f step : Int32) (s : Nat) : Int32 := if kind = 3 then 0 else if nI s < n then cl7 (shE kind (f + nI s * step)) else 0
def shS (V : Nat → Int32) : Nat → Int32
  | 0 => 0
  | k + 1 => shS V k + V k
def shG (a0 : Nat) (x1 x2 x3 : Int32) : Prop := (0 ≤ x1.toInt ∧ x1.toInt < a0) ∧ (0 ≤ x2.toInt ∧ x2.toInt ≤ 3) ∧ x3.toInt ≤ 8
/-- what a sheet answers; b: it is one -/
def shQ (n a0 : Nat) (x1 x2 x3 x4 x5 : Int32) (c a : Nat) (S : List Nat) (m : Wm) (r : Option Value) (m' : Wm) : Prop := WT m' ∧ Fx (RS S) m m' ∧
  ((¬ shG a0 x1 x2 x3 ∧ r = some (.int (-1)) ∧ m'.1 c = m.1 c) ∨ (shG a0 x1 x2 x3 ∧ x2.toInt ≠ 3 ∧ x3.toInt < 0 ∧ r = some (.int (-2)) ∧ m'.1 c = m.1 c) ∨
   (shG a0 x1 x2 x3 ∧ (x2.toInt = 3 ∨ 0 ≤ x3.toInt) ∧ r = some (.int (if x2 = 3 then -3 else shS (shV x2 x3 x4 x5) n)) ∧ ∀ k, m'.1 c k = if k < 4 * n ∧ k % 4 = a then shV x2 x3 x4 x5 (k / 4) else m.1 c k))
section SHT
variable {ad : Nat → Nat} {d : Nat} {m : Wm} {n a0 : Nat} {x1 x2 x3 x4 x5 : Int32}
theorem cl7_m (x : Int32) : (if (0 : Int32) < (if x < (7 : Int32) then x else (7 : Int32)) then (if x < (7 : Int32) then x else (7 : Int32)) else (0 : Int32)) = cl7 x := by
  have z7 : (7 : Int32).toInt = 7 := rfl
  have z0 : (0 : Int32).toInt = 0 := rfl
  unfold cl7
  by_cases h : x < 7
  · rw [if_pos h]
    have h7 := z_lt h
    by_cases h0 : 0 < x
    · have := z_lt h0
      rw [if_pos h0, if_pos ((fa_le _ _).mpr (by omega)), if_pos ((fa_le _ _).mpr (by omega))]
    · have := z_nlt h0
      rw [if_neg h0]
      by_cases h1 : 0 ≤ x
      · have := z_le h1
        rw [if_pos h1, if_pos ((fa_le _ _).mpr (by omega))]
        exact (fa_eq _ _).mpr (by omega)
      · rw [if_neg h1]
  · rw [if_neg h]
    have h7 := z_nlt h
    rw [if_pos (by decide), if_pos ((fa_le _ _).mpr (by omega))]
    by_cases h1 : x ≤ 7
    · have := z_le h1
      rw [if_pos h1]
      exact (fa_eq _ _).mpr (by omega)
    · rw [if_neg h1]
theorem e_has (hn : m.1 3 3 = nI n) (hn8 : n ≤ 8) {x : Int32} : Ct ad μX1_has d [.ref (ad 3), .int x] m (fun r m' => m' = m ∧ r = some (.int (if 0 ≤ x.toInt ∧ x.toInt < n then 1 else 0))) := by
  have tn' : (nI n).toInt = n := nI_toInt (by omega)
  refine v_X1_has ?_
  rw [hn]
  refine ⟨fun c => ⟨rfl, ?_⟩, fun c => ⟨fun c2 => ⟨rfl, ?_⟩, fun c2 => ⟨rfl, ?_⟩⟩⟩
  · have := y_ltr (n := 0) rfl c
    rw [if_neg (by omega)]
  · have := z_le c2
    rw [if_neg (by omega)]
  · have h1 := y_nltr (n := 0) rfl c
    have h2 := z_nle c2
    rw [if_pos (by omega)]
theorem e_knows (ha : m.1 3 4 = nI a0) (ha4 : a0 ≤ 4) {x : Int32} : Ct ad μX1_knows d [.ref (ad 3), .int x] m (fun r m' => m' = m ∧ r = some (.int (if 0 ≤ x.toInt ∧ x.toInt < a0 then 1 else 0))) := by
  have tn' : (nI a0).toInt = a0 := nI_toInt (by omega)
  refine v_X1_knows ?_
  rw [ha]
  refine ⟨fun c => ⟨rfl, ?_⟩, fun c => ⟨fun c2 => ⟨rfl, ?_⟩, fun c2 => ⟨rfl, ?_⟩⟩⟩
  · have := y_ltr (n := 0) rfl c
    rw [if_neg (by omega)]
  · have := z_le c2
    rw [if_neg (by omega)]
  · have h1 := y_nltr (n := 0) rfl c
    have h2 := z_nle c2
    rw [if_pos (by omega)]
theorem le1_iff {x : Int32} {n : Nat} (hn : n < 100) : (0 ≤ x ∧ x ≤ nI n - 1) ↔ (0 ≤ x.toInt ∧ x.toInt < n) := by
  have tn' : (nI n).toInt = n := nI_toInt (by omega)
  have z1 : (1 : Int32).toInt = 1 := rfl
  have z0 : (0 : Int32).toInt = 0 := rfl
  have e := ti_sub (x := nI n) (y := 1) (by omega)
  rw [fa_le, fa_le, z0, e, tn', z1]
  omega
theorem e_isSide (hn : m.1 187 1 = nI n) (hn8 : n ≤ 8) {x : Int32} : Ct ad μX12_isSide (d + 1) [.ref (ad 187), .int x] m (fun r m' => m' = m ∧ r = some (.int (if 0 ≤ x.toInt ∧ x.toInt < n then 1 else 0))) := by
  have h := isSide_ok (ad := ad) (d := d) (m := m) (x := x)
  rw [hn] at h
  refine h.to ?_
  rintro r m' ⟨e, e2⟩
  refine ⟨e, e2.trans ?_⟩
  by_cases hc : 0 ≤ x ∧ x ≤ nI n - 1
  · rw [if_pos hc, if_pos ((le1_iff (by omega)).mp hc)]
  · rw [if_neg hc, if_neg (fun q => hc ((le1_iff (by omega)).mpr q))]
theorem e_isArt (ha : m.1 187 0 = nI a0) (ha4 : a0 ≤ 4) {x : Int32} : Ct ad μX12_isArt (d + 1) [.ref (ad 187), .int x] m (fun r m' => m' = m ∧ r = some (.int (if 0 ≤ x.toInt ∧ x.toInt < a0 then 1 else 0))) := by
  have h := isArt_ok (ad := ad) (d := d) (m := m) (x := x)
  rw [ha] at h
  refine h.to ?_
  rintro r m' ⟨e, e2⟩
  refine ⟨e, e2.trans ?_⟩
  by_cases hc : 0 ≤ x ∧ x ≤ nI a0 - 1
  · rw [if_pos hc, if_pos ((le1_iff (by omega)).mp hc)]
  · rw [if_neg hc, if_neg (fun q => hc ((le1_iff (by omega)).mpr q))]
theorem e_entry {k x : Int32} : Ct ad μX11_entry d [.int k, .int x] m (fun r m' => m' = m ∧ r = some (.int (shE k x))) := by
  refine v_X11_entry ⟨fun c => ⟨fun c2 => ⟨rfl, ?_⟩, fun c2 => ⟨rfl, ?_⟩⟩, fun c => ⟨rfl, ?_⟩⟩
  · unfold shE; rw [if_neg c, if_neg c2]
  · unfold shE; rw [if_neg c, if_pos c2]
  · unfold shE; rw [if_pos c]
theorem e_clamp7 {x : Int32} : Ct ad μX11_clamp d [.int x, .int (0 : Int32), .int (7 : Int32)] m (fun r m' => m' = m ∧ r = some (.int (cl7 x))) := by
  refine v_X11_clamp ⟨fun c => ⟨fun c2 => ⟨rfl, ?_⟩, fun c2 => ⟨rfl, ?_⟩⟩, fun c => ⟨rfl, ?_⟩⟩
  · unfold cl7; rw [if_pos c, if_pos c2]
  · unfold cl7; rw [if_pos c, if_neg c2]
  · unfold cl7; rw [if_neg c]
/-- the skills while side s is next -/
def shM (V : Nat → Int32) (a s : Nat) (f f' : Nat → Int32) : Prop := ∀ k, f' k = if k < 4 * s ∧ k % 4 = a then V (k / 4) else f k
theorem shM_0 {V : Nat → Int32} {a : Nat} {f : Nat → Int32} : shM V a 0 f f := fun k => by rw [if_neg (by omega)]
theorem shM_s {V : Nat → Int32} {a s : Nat} {f : Nat → Int32} {m1 : Wm} {c : Nat} (h : shM V a s f (m1.1 c)) (ha : a < 4) : shM V a (s + 1) f ((uI m1 c (4 * s + a) (V s)).1 c) := fun k => by
  by_cases hk : k = 4 * s + a
  · subst hk
    rw [u_eq, if_pos (by omega), show (4 * s + a) / 4 = s by omega]
  · rw [u_ne (fun q => hk q.2), h k]
    by_cases hc : k < 4 * s ∧ k % 4 = a
    · rw [if_pos hc, if_pos (by omega)]
    · rw [if_neg hc, if_neg (by omega)]
theorem e_sheetC (w : WT m) (hn : m.1 3 3 = nI n) (hn8 : n ≤ 8) (ha : m.1 3 4 = nI a0) (ha4 : a0 ≤ 4) : Ct ad μX11_sheet (d + 1) [.ref (ad 0), .int x1, .int x2, .int x3, .int x4, .int x5] m (fun r m' => shQ n a0 x1 x2 x3 x4 x5 22 x1.toNatClampNeg [4, 53] m r m' ∧ (shG a0 x1 x2 x3 ∧ (x2.toInt = 3 ∨ 0 ≤ x3.toInt) → m'.1 31 1 = 0) ∧ (¬ (shG a0 x1 x2 x3 ∧ (x2.toInt = 3 ∨ 0 ≤ x3.toInt)) → m' = m) ∧ ∀ b k, b ≠ 22 → b ≠ 31 → m'.1 b k = m.1 b k) := by
  generalize hQ : (fun (r : Option Value) (m' : Wm) => shQ n a0 x1 x2 x3 x4 x5 22 x1.toNatClampNeg [4, 53] m r m' ∧ (shG a0 x1 x2 x3 ∧ (x2.toInt = 3 ∨ 0 ≤ x3.toInt) → m'.1 31 1 = 0) ∧ (¬ (shG a0 x1 x2 x3 ∧ (x2.toInt = 3 ∨ 0 ≤ x3.toInt)) → m' = m) ∧ ∀ b k, b ≠ 22 → b ≠ 31 → m'.1 b k = m.1 b k) = Q
  have bad : ¬ shG a0 x1 x2 x3 → Q (some (.int (-1))) m := fun h => by
    rw [← hQ]
    exact ⟨⟨w, Fx.rf, Or.inl ⟨h, rfl, rfl⟩⟩, fun q => absurd q.1 h, fun _ => rfl, fun _ _ _ _ => rfl⟩
  refine v_X11_sheet ((e_knows ha ha4).to ?_)
  rintro _ m' ⟨eq, rfl⟩
  obtain rfl := eq.symm
  by_cases hk : 0 ≤ x1.toInt ∧ x1.toInt < a0
  · refine ⟨1, by rw [if_pos hk], fun z => absurd z (by decide), fun _ => ⟨fun c => bad (fun z => ?_), fun c => ⟨fun c2 => bad (fun z => ?_), fun c2 => ⟨fun c3 => ?_, fun c3 => bad (fun z => ?_)⟩⟩⟩⟩
    · have := y_ltr (n := 0) rfl c; have := z.2.1; omega
    · have := y_ltl (n := 3) rfl c2; have := z.2.1; omega
    · have k2a := y_nltr (n := 0) rfl c
      have k2b := y_nltl (n := 3) rfl c2
      have k3 := y_ler (n := 8) rfl c3
      have G : shG a0 x1 x2 x3 := ⟨hk, ⟨k2a, k2b⟩, k3⟩
      obtain ⟨a, ha2, ea⟩ := zn_of hk.1
      have ta : x1.toInt = a := by rw [ea, nI_toInt ha2]
      have ca : x1.toNatClampNeg = a := by rw [ea, nI_clamp ha2]
      have ha44 : a < 4 := by omega
      have L : ∀ (s0 : Int32), (s0 = if x2 = 3 then 1 else 0) → (x2.toInt = 3 ∨ 0 ≤ x3.toInt) → ∀ (j s : Nat) (m1 : Wm), s + j = n → WT m1 → Fx (RS [4, 53]) m m1 → (∀ b k, b ≠ 22 → b ≠ 31 → m1.1 b k = m.1 b k) → shM (shV x2 x3 x4 x5) a s (m.1 22) (m1.1 22) →
          AW ad E0 μX11_sheet (d + 1) Q 58 [(0, .ref (ad 0)), (1, .int x1), (2, .int x2), (3, .int x3), (4, .int x4), (5, .int x5), (6, .int s0), (7, .int (shS (shV x2 x3 x4 x5) s)), (8, .int (nI s))] [] m1 := by
        intro s0 hs0 hok j
        induction j with
        | zero =>
          intro s m1 hs w1 f1 hb hM
          obtain rfl : s = n := hs
          have e33 : m1.1 3 3 = nI s := (f1.at (a := 3) (k := 3) (by decide)).trans hn
          have fin : ∀ r, r = some (Value.int (if x2 = 3 then -3 else shS (shV x2 x3 x4 x5) s)) → Q r (uI m1 31 1 0) := fun r hr => by
            rw [← hQ]
            refine ⟨⟨w1.t rfl (by decide) (by decide), f1.i rfl, Or.inr (Or.inr ⟨G, hok, hr, fun k => ?_⟩)⟩, fun _ => rfl, fun z => absurd ⟨G, hok⟩ z, fun b k h1 h2 => (u_ne (fun q => h2 q.1)).trans (hb b k h1 h2)⟩
            rw [ca]
            exact (u_ne (by omega)).trans (hM k)
          refine g_X11_sheet_58 ⟨fun _ => ⟨fun c0 => fin _ ?_, fun c0 => fin _ ?_⟩, fun z => absurd (by rw [e33]; exact (nI_leI (by omega) (by omega)).mpr (Nat.le_refl _)) z⟩
          · by_cases h3 : x2 = 3
            · rw [hs0, if_pos h3] at c0; exact absurd c0 (by decide)
            · rw [if_neg h3]
          · by_cases h3 : x2 = 3
            · rw [if_pos h3]
            · rw [hs0, if_neg h3] at c0; exact absurd rfl c0
        | succ j ih =>
          intro s m1 hs w1 f1 hb hM
          have e33 : m1.1 3 3 = nI n := (f1.at (a := 3) (k := 3) (by decide)).trans hn
          have put : ∀ v, v = shV x2 x3 x4 x5 s → AW ad E0 μX11_sheet (d + 1) Q 103 [(0, .ref (ad 0)), (1, .int x1), (2, .int x2), (3, .int x3), (4, .int x4), (5, .int x5), (6, .int s0), (7, .int (shS (shV x2 x3 x4 x5) s)), (8, .int (nI s))] [.int v] m1 := fun v hv => by
            subst hv
            refine g_X11_sheet_103 ((e_putS (i := 4 * s + a) St_21 (by rw [mul_l 4 4 rfl, ea, nI_add, Nat.mul_comm s 4]) (by omega)).to ?_)
            rintro _ m2 ⟨rfl, e⟩
            subst e
            refine ⟨rfl, ?_⟩
            rw [nI_1]
            exact ih (s + 1) _ (by omega) (w1.n rfl) (f1.i rfl) (fun b k h1 h2 => (u_ne (fun q => h1 q.1)).trans (hb b k h1 h2)) (shM_s (c := 22) hM ha44)
          refine g_X11_sheet_58 ⟨fun z => absurd (by rw [e33] at z; exact (nI_leI (by omega) (by omega)).mp z) (by omega), fun _ => ⟨fun c0 => put _ ?_, fun c0 => ⟨fun cs => e_entry.to ?_, fun cs => put _ ?_⟩⟩⟩
          · have h3 : x2 = 3 := by
              by_cases h3 : x2 = 3
              · exact h3
              · rw [hs0, if_neg h3] at c0; exact absurd rfl c0
            unfold shV; rw [if_pos h3]
          · have h3 : ¬ x2 = 3 := fun h3 => by rw [hs0, if_pos h3] at c0; exact absurd c0 (by decide)
            rintro _ m' ⟨eq, rfl⟩
            obtain rfl := eq.symm
            refine ⟨_, rfl, e_clamp7.to ?_⟩
            rintro _ m' ⟨eq, rfl⟩
            obtain rfl := eq.symm
            refine ⟨_, rfl, put _ ?_⟩
            unfold shV; rw [if_neg h3, if_pos cs]
          · have h3 : ¬ x2 = 3 := fun h3 => by rw [hs0, if_pos h3] at c0; exact absurd c0 (by decide)
            unfold shV; rw [if_neg h3, if_neg cs]
      have two : x2.toInt ≠ 3 → x3.toInt < 0 → Q (some (.int (-2))) m := fun h3 h4 => by
        rw [← hQ]
        exact ⟨⟨w, Fx.rf, Or.inr (Or.inl ⟨G, h3, h4, rfl, rfl⟩)⟩, fun q => absurd q.2 (by omega), fun _ => rfl, fun _ _ _ _ => rfl⟩
      refine ⟨fun c4 => ?_, fun c4 => ?_⟩
      · refine g_X11_sheet_38 ⟨fun c5 => L 0 (by rw [if_neg c4]) (Or.inr (y_lel (n := 0) rfl c5)) n 0 m (by omega) w Fx.rf (fun _ _ _ _ => rfl) shM_0, fun c5 => ⟨fun z => absurd rfl z, fun _ => two (y_ner (n := 3) rfl c4) (y_nlel (n := 0) rfl c5)⟩⟩
      · have t3 : x2.toInt = 3 := y_eqr (n := 3) rfl c4
        refine g_X11_sheet_38 ⟨fun c5 => L 1 (by rw [if_pos c4]) (Or.inl t3) n 0 m (by omega) w Fx.rf (fun _ _ _ _ => rfl) shM_0, fun c5 => ⟨fun _ => L 1 (by rw [if_pos c4]) (Or.inl t3) n 0 m (by omega) w Fx.rf (fun _ _ _ _ => rfl) shM_0, fun z => absurd z (by decide)⟩⟩
    · have := y_nler (n := 8) rfl c3; have := z.2.2; omega
  · exact ⟨0, by rw [if_neg hk], fun _ => bad (fun z => hk z.1), fun z => absurd rfl z⟩
theorem step_s (f step : Int32) (s : Nat) : f + nI s * step + step = f + nI (s + 1) * step := by
  rw [← nI_1 s, Int32.add_mul, Int32.one_mul, Int32.add_assoc]
theorem e_sheetM (w : WT m) (hn : m.1 187 1 = nI n) (hn8 : n ≤ 8) (ha : m.1 187 0 = nI a0) (ha4 : a0 ≤ 4) : Ct ad μX12_sheet (d + 2) [.ref (ad 187), .int x1, .int x2, .int x3, .int x4, .int x5] m (fun r m' => shQ n a0 x1 x2 x3 x4 x5 188 x1.toNatClampNeg [20, 24, 29] m r m' ∧ (shG a0 x1 x2 x3 ∧ (x2.toInt = 3 ∨ 0 ≤ x3.toInt) → m'.1 187 30 = 0) ∧ (¬ (shG a0 x1 x2 x3 ∧ (x2.toInt = 3 ∨ 0 ≤ x3.toInt)) → Fx (RS [20]) m m') ∧ ∀ b k, b ≠ 187 → b ≠ 188 → m'.1 b k = m.1 b k) := by
  generalize hQ : (fun (r : Option Value) (m' : Wm) => shQ n a0 x1 x2 x3 x4 x5 188 x1.toNatClampNeg [20, 24, 29] m r m' ∧ (shG a0 x1 x2 x3 ∧ (x2.toInt = 3 ∨ 0 ≤ x3.toInt) → m'.1 187 30 = 0) ∧ (¬ (shG a0 x1 x2 x3 ∧ (x2.toInt = 3 ∨ 0 ≤ x3.toInt)) → Fx (RS [20]) m m') ∧ ∀ b k, b ≠ 187 → b ≠ 188 → m'.1 b k = m.1 b k) = Q
  have w0 : WT (uI m 187 17 0) := w.n rfl
  have hn0 : (uI m 187 17 0).1 187 1 = nI n := hn
  have ha0 : (uI m 187 17 0).1 187 0 = nI a0 := ha
  have f0 : Fx (RS [20, 24, 29]) m (uI m 187 17 0) := Fx.rf.i rfl
  have bad : ¬ shG a0 x1 x2 x3 → Q (some (.int (-1))) (uI m 187 17 0) := fun h => by
    rw [← hQ]
    exact ⟨⟨w0, f0, Or.inl ⟨h, rfl, rfl⟩⟩, fun q => absurd q.1 h, fun _ => Fx.rf.i rfl, fun b k h1 _ => u_ne (fun q => h1 q.1)⟩
  have two : shG a0 x1 x2 x3 → x2.toInt ≠ 3 → x3.toInt < 0 → Q (some (.int (-2))) (uI m 187 17 0) := fun G h3 h4 => by
    rw [← hQ]
    exact ⟨⟨w0, f0, Or.inr (Or.inl ⟨G, h3, h4, rfl, rfl⟩)⟩, fun q => absurd q.2 (by omega), fun _ => Fx.rf.i rfl, fun b k h1 _ => u_ne (fun q => h1 q.1)⟩
  have L : shG a0 x1 x2 x3 → (x2.toInt = 3 ∨ 0 ≤ x3.toInt) → ∀ (j s : Nat) (m1 : Wm), s + j = n → WT m1 → Fx (RS [20, 24, 29]) m m1 → (∀ b k, b ≠ 187 → b ≠ 188 → m1.1 b k = m.1 b k) → shM (shV x2 x3 x4 x5) x1.toNatClampNeg s (m.1 188) (m1.1 188) →
      AW ad E0 μX12_sheet (d + 2) Q 55 [(0, .ref (ad 187)), (1, .int x1), (2, .int x2), (3, .int x3), (5, .int x5), (6, .int (shS (shV x2 x3 x4 x5) s)), (7, .int (x4 + nI s * x5)), (8, .int (nI s))] [] m1 := by
    intro G hok j
    obtain ⟨a, ha2, ea⟩ := zn_of G.1.1
    have ta : x1.toInt = a := by rw [ea, nI_toInt ha2]
    have ca : x1.toNatClampNeg = a := by rw [ea, nI_clamp ha2]
    have hG := G.1
    have ha44 : a < 4 := by omega
    rw [ca]
    induction j with
    | zero =>
      intro s m1 hs w1 f1 hb hM
      obtain rfl : s = n := hs
      have e33 : m1.1 187 1 = nI s := (f1.at (a := 187) (k := 1) (by decide)).trans hn
      have fin : ∀ r, r = some (Value.int (if x2 = 3 then -3 else shS (shV x2 x3 x4 x5) s)) → Q r (uI m1 187 30 0) := fun r hr => by
        rw [← hQ]
        refine ⟨⟨w1.t rfl (by decide) (by decide), f1.i rfl, Or.inr (Or.inr ⟨G, hok, hr, fun k => ?_⟩)⟩, fun _ => rfl, fun z => absurd ⟨G, hok⟩ z, fun b k h1 h2 => (u_ne (fun q => h1 q.1)).trans (hb b k h1 h2)⟩
        rw [ca]
        exact (u_ne (by omega)).trans (hM k)
      refine g_X12_sheet_55 ⟨fun _ => ⟨fun c0 => fin _ (by rw [if_neg c0]), fun c0 => fin _ (by rw [if_pos c0])⟩, fun z => absurd (by rw [e33]; exact (nI_leI (by omega) (by omega)).mpr (Nat.le_refl _)) z⟩
    | succ j ih =>
      intro s m1 hs w1 f1 hb hM
      have e33 : m1.1 187 1 = nI n := (f1.at (a := 187) (k := 1) (by decide)).trans hn
      have put : ∀ v, v = shV x2 x3 x4 x5 s → AW ad E0 μX12_sheet (d + 2) Q 125 [(0, .ref (ad 187)), (1, .int x1), (2, .int x2), (3, .int x3), (5, .int x5), (6, .int (shS (shV x2 x3 x4 x5) s)), (7, .int (x4 + nI s * x5)), (8, .int (nI s))] [.int v, .int ((4 : Int32) * nI s + x1), .ref (ad 188)] m1 := fun v hv => by
        subst hv
        have e4 : (4 : Int32) * nI s + x1 = nI (4 * s + a) := by rw [l_mul 4 4 rfl, ea, nI_add]
        rw [e4]
        refine g_X12_sheet_125 (ne2 := 32) ly_188 ⟨nat_in (by omega) (by decide), ?_⟩
        rw [e4, nI_clamp (by omega), u_eq, nI_1, step_s]
        exact ⟨nat_in (by omega) (by decide), ih (s + 1) _ (by omega) (w1.n rfl) (f1.i rfl) (fun b k h1 h2 => (u_ne (fun q => h2 q.1)).trans (hb b k h1 h2)) (shM_s (c := 188) hM ha44)⟩
      have L87 : ∀ s0, s0 = shE x2 (x4 + nI s * x5) → AW ad E0 μX12_sheet (d + 2) Q 87 [(0, .ref (ad 187)), (1, .int x1), (2, .int x2), (3, .int x3), (5, .int x5), (6, .int (shS (shV x2 x3 x4 x5) s)), (7, .int (x4 + nI s * x5)), (8, .int (nI s))] [.int s0] m1 := fun s0 hs0 => by
        subst hs0
        refine g_X12_sheet_87 ⟨fun h3 => put _ ?_, fun h3 => ⟨fun cs => put _ ?_, fun cs => put _ ?_⟩⟩
        · unfold shV; rw [if_pos h3]
        · unfold shV; rw [if_neg h3, if_pos cs, cl7_m]
        · unfold shV; rw [if_neg h3, if_neg cs]
      refine g_X12_sheet_55 ⟨fun z => absurd (by rw [e33] at z; exact (nI_leI (by omega) (by omega)).mp z) (by omega), fun _ => ⟨fun c0 => ⟨fun c1 => L87 _ ?_, fun c1 => L87 _ ?_⟩, fun c0 => L87 _ ?_⟩⟩
      · unfold shE; rw [if_neg c0, if_neg c1]
      · unfold shE; rw [if_neg c0, if_pos c1]
      · unfold shE; rw [if_pos c0]
  have st : x4 = x4 + nI 0 * x5 := by rw [nI_0, Int32.zero_mul, Int32.add_zero]
  have hQ2 : ∀ b k, b ≠ 187 → b ≠ 188 → (uI m 187 17 0).1 b k = m.1 b k := fun b k h1 _ => u_ne (fun q => h1 q.1)
  refine v_X12_sheet ((e_isArt (d := d) ha0 ha4).to ?_)
  rintro _ m' ⟨eq, rfl⟩
  obtain rfl := eq.symm
  by_cases hk : 0 ≤ x1.toInt ∧ x1.toInt < a0
  · refine ⟨1, by rw [if_pos hk], fun z => absurd z (by decide), fun _ => (in_i (lo := 0) (hi := 3) rfl rfl).to ?_⟩
    rintro _ m' ⟨eq, rfl⟩
    obtain rfl := eq.symm
    by_cases h2 : (0 : Int32) ≤ x2 ∧ x2 ≤ 3
    · have k2a := y_lel (n := 0) rfl h2.1
      have k2b := y_ler (n := 3) rfl h2.2
      refine ⟨1, by rw [if_pos h2], fun z => absurd z (by decide), fun _ => ⟨fun c3 => ?_, fun c3 => bad (fun z => ?_)⟩⟩
      · have k3 := y_ler (n := 8) rfl c3
        have G : shG a0 x1 x2 x3 := ⟨hk, ⟨k2a, k2b⟩, k3⟩
        have go : (x2.toInt = 3 ∨ 0 ≤ x3.toInt) → AW ad E0 μX12_sheet (d + 2) Q 55 [(0, .ref (ad 187)), (1, .int x1), (2, .int x2), (3, .int x3), (5, .int x5), (6, .int (0 : Int32)), (7, .int x4), (8, .int (0 : Int32))] [] (uI m 187 17 0) := fun hok => by
          have := L G hok n 0 (uI m 187 17 0) (by omega) w0 f0 hQ2 shM_0
          rw [← st] at this
          exact this
        refine ⟨fun c4 => go (Or.inl (by have := y_lel (n := 3) rfl c4; omega)), fun c4 => ⟨fun c5 => go (Or.inr (y_lel (n := 0) rfl c5)), fun c5 => two G ?_ (y_nlel (n := 0) rfl c5)⟩⟩
        have := y_nlel (n := 3) rfl c4; omega
      · have := y_nler (n := 8) rfl c3; have := z.2.2; omega
    · refine ⟨0, by rw [if_neg h2], fun _ => bad (fun z => h2 ⟨(fa_le _ _).mpr ?_, (fa_le _ _).mpr ?_⟩), fun z => absurd rfl z⟩
      · have z0 : (0 : Int32).toInt = 0 := rfl
        have := z.2.1; omega
      · have z3 : (3 : Int32).toInt = 3 := rfl
        have := z.2.1; omega
  · exact ⟨0, by rw [if_neg hk], fun _ => bad (fun z => hk z.1), fun z => absurd rfl z⟩
end SHT
end
section
/-! WHAT STANDS BETWEEN TWO CALLS, AND THE CALLS THAT READ THE TEXT -/
def IL : List Nat := [0, 8, 21, 23, 25, 39, 41]
def RG (m : Wm) : Prop := (m.1 187 11).toInt = 0 ∨ 1 ≤ (m.1 187 10).toInt
def IV (m : Wm) : Prop := RG m ∧ TXI m ∧ m.1 3 3 = m.1 187 1 ∧ m.1 3 4 = m.1 187 0 ∧ m.1 0 15 = m.1 187 52
/-- what stands, and K besides -/
def InvK (K : Wm → Prop) (m : Wm) : Prop := WT m ∧ IV m ∧ K m
/-- the regions that K may speak of -/
def KL : List Nat := [1, 4, 6, 7, 13, 23, 24, 25, 29, 40, 41, 42, 43, 44, 45, 46, 47, 48, 49, 52, 53, 54, 55]
/-- calls that leave KL alone lead from K to K' -/
def KD (K K' : Wm → Prop) : Prop := ∀ {S1 S2 : List Nat} {m m1 m2 : Wm}, Fx (RS S1) m m1 → Fx (RS S2) m1 m2 → K m → S1.all (fun x => !(KL.elem x)) = true → S2.all (fun x => !(KL.elem x)) = true → K' m2
/-- calls that touch A in the class and B in the model alone lead from K to K' -/
def TR (A B : List Nat) (K K' : Wm → Prop) : Prop := ∀ {m m1 m2 : Wm}, Fx (RS A) m m1 → Fx (RS B) m1 m2 → K m → K' m2
theorem TR.use {A B S1 S2 : List Nat} {K K' : Wm → Prop} {m m1 m2 : Wm} (h : TR A B K K') (f1 : Fx (RS S1) m m1) (f2 : Fx (RS S2) m1 m2) (k : K m) (e1 : (S1.all fun x => A.elem x) = true) (e2 : (S2.all fun x => B.elem x) = true) : K' m2 := h (Fx.tr Fx.rf f1 (RS_sub e1)) (Fx.tr Fx.rf f2 (RS_sub e2)) k
theorem nRS {S : List Nat} {a k ρ : Nat} (h : S.elem ρ = false) (e : rg a k = ρ) : ¬ RS S a k := fun q => by unfold RS at q; rw [e, h] at q; cases q
theorem all_ne {S L : List Nat} {ρ : Nat} (e : S.all (fun x => !(L.elem x)) = true) (h : L.elem ρ = true) : S.elem ρ = false := by
  cases hs : S.elem ρ with
  | false => rfl
  | true =>
    have h1 := List.all_eq_true.mp e ρ (List.mem_of_elem_eq_true hs)
    rw [h] at h1
    exact absurd h1 (by decide)
section OPA
variable {ad : Nat → Nat} {d : Nat} {m m' : Wm} {S : List Nat} {K K' : Wm → Prop}
theorem RG.fx (h : RG m) (f : Fx (RS S) m m') (e : S.elem 25 = false) : RG m' := by
  unfold RG
  rw [f.at (a := 187) (k := 11) (nRS e rfl), f.at (a := 187) (k := 10) (nRS e rfl)]
  exact h
theorem TXI.fx (h : TXI m) (f : Fx (RS S) m m') (e : S.elem 0 = false) (e2 : S.elem 21 = false) : TXI m' := by
  unfold TXI
  rw [f.at (a := 1) (k := 1) (nRS e rfl), f.at (a := 187) (k := 14) (nRS e2 rfl)]
  refine ⟨h.1, fun k hk => ?_⟩
  rw [f.at (a := 2) (k := k) (nRS e rfl), f.at (a := 195) (k := k) (nRS e2 rfl)]
  exact h.2 k hk
theorem TXI.zero (h1 : (m.1 1 1).toInt = 0) (h2 : (m.1 187 14).toInt = 0) : TXI m := ⟨(fa_eq _ _).mpr (by omega), fun k hk => absurd hk (by omega)⟩
theorem IV.fx (h : IV m) (f : Fx (RS S) m m') (e : S.all (fun x => !(IL.elem x)) = true) : IV m' := by
  obtain ⟨h1, h2, h3, h4, h5⟩ := h
  refine ⟨h1.fx f (all_ne e rfl), h2.fx f (all_ne e rfl) (all_ne e rfl), ?_, ?_, ?_⟩
  · rw [f.at (a := 3) (k := 3) (nRS (all_ne e (ρ := 41) rfl) rfl), f.at (a := 187) (k := 1) (nRS (all_ne e (ρ := 23) rfl) rfl)]; exact h3
  · rw [f.at (a := 3) (k := 4) (nRS (all_ne e (ρ := 41) rfl) rfl), f.at (a := 187) (k := 0) (nRS (all_ne e (ρ := 23) rfl) rfl)]; exact h4
  · rw [f.at (a := 0) (k := 15) (nRS (all_ne e (ρ := 8) rfl) rfl), f.at (a := 187) (k := 52) (nRS (all_ne e (ρ := 39) rfl) rfl)]; exact h5
theorem IV.f2 {m1 m2 : Wm} {S1 S2 : List Nat} (h : IV m) (f1 : Fx (RS S1) m m1) (f2 : Fx (RS S2) m1 m2) (e1 : S1.all (fun x => !(IL.elem x)) = true) (e2 : S2.all (fun x => !(IL.elem x)) = true) : IV m2 := (h.fx f1 e1).fx f2 e2
/-- the same numbers, without the text and the games -/
theorem IV.sd {m1 m2 : Wm} {S1 S2 : List Nat} (h : IV m) (f1 : Fx (RS S1) m m1) (f2 : Fx (RS S2) m1 m2) (e1 : S1.all (fun x => !(([8, 23, 39, 41] : List Nat).elem x)) = true) (e2 : S2.all (fun x => !(([8, 23, 39, 41] : List Nat).elem x)) = true) : m2.1 3 3 = m2.1 187 1 ∧ m2.1 3 4 = m2.1 187 0 ∧ m2.1 0 15 = m2.1 187 52 := by
  obtain ⟨-, -, h3, h4, h5⟩ := h
  refine ⟨?_, ?_, ?_⟩
  · rw [f2.at (a := 3) (k := 3) (nRS (all_ne e2 (ρ := 41) rfl) rfl), f2.at (a := 187) (k := 1) (nRS (all_ne e2 (ρ := 23) rfl) rfl), f1.at (a := 3) (k := 3) (nRS (all_ne e1 (ρ := 41) rfl) rfl), f1.at (a := 187) (k := 1) (nRS (all_ne e1 (ρ := 23) rfl) rfl)]; exact h3
  · rw [f2.at (a := 3) (k := 4) (nRS (all_ne e2 (ρ := 41) rfl) rfl), f2.at (a := 187) (k := 0) (nRS (all_ne e2 (ρ := 23) rfl) rfl), f1.at (a := 3) (k := 4) (nRS (all_ne e1 (ρ := 41) rfl) rfl), f1.at (a := 187) (k := 0) (nRS (all_ne e1 (ρ := 23) rfl) rfl)]; exact h4
  · rw [f2.at (a := 0) (k := 15) (nRS (all_ne e2 (ρ := 8) rfl) rfl), f2.at (a := 187) (k := 52) (nRS (all_ne e2 (ρ := 39) rfl) rfl), f1.at (a := 0) (k := 15) (nRS (all_ne e1 (ρ := 8) rfl) rfl), f1.at (a := 187) (k := 52) (nRS (all_ne e1 (ρ := 39) rfl) rfl)]; exact h5
def Both (ad : Nat → Nat) (d : Nat) (μ μ' : MI) (as : List Value) (I J : Wm → Prop) : Prop := ∀ m, I m → Ct ad μ (d + 300) (.ref (ad 0) :: as) m (fun r m1 => ∃ v : Int32, r = some (.int v) ∧ Ct ad μ' (d + 300) (.ref (ad 187) :: as) m1 (fun r m2 => r = some (.int v) ∧ J m2))
def BothW (ad : Nat → Nat) (d : Nat) (μ μ' : MI) (as : List Value) (I J : Wm → Prop) : Prop := ∀ m, I m → Ct ad μ (d + 300) (.ref (ad 0) :: as) m (fun r m1 => (∃ v : Int32, r = some (.int v)) ∧ Ct ad μ' (d + 300) (.ref (ad 187) :: as) m1 (fun r m2 => (∃ w : Int32, r = some (.int w)) ∧ J m2))
theorem Both.w {μ μ' : MI} {as : List Value} {I J : Wm → Prop} (h : Both ad d μ μ' as I J) : BothW ad d μ μ' as I J := fun m hI => (h m hI).to (fun r m1 h => by
  obtain ⟨v, rfl, h2⟩ := h
  exact ⟨⟨v, rfl⟩, h2.to (fun r m2 h => ⟨⟨v, h.1⟩, h.2⟩)⟩)
theorem os_sign (hK : KD K K') (a : Int32) : Both ad d μX11_sign μX12_sign [.int a] (InvK K) (InvK K') := fun m I => by
  obtain ⟨w, ⟨h1, h2, h3⟩, k0⟩ := I
  refine (sign_both (d := d + 299) w h2).to ?_
  rintro r m1 ⟨v, rfl, w1, f1, k⟩
  refine ⟨v, rfl, k.to ?_⟩
  rintro r m2 ⟨rfl, w2, f2, T2⟩
  exact ⟨rfl, w2, ⟨(h1.fx f1 rfl).fx f2 rfl, T2, IV.sd ⟨h1, h2, h3⟩ f1 f2 rfl rfl⟩, hK f1 f2 k0 rfl rfl⟩
theorem e_endC {x : Int32} (w : WT m) : Ct ad μX11_end (d + 1) [.ref (ad 0), .int x] m (fun r m' => WT m' ∧ ((0 ≤ x.toInt ∧ x.toInt ≤ (m.1 1 1).toInt ∧ r = some (.int 1) ∧ m' = uI m 1 1 x) ∨ (¬ (0 ≤ x.toInt ∧ x.toInt ≤ (m.1 1 1).toInt) ∧ r = some (.int 0) ∧ m' = m))) := by
  have t := w.at (a := 1) (k := 1) rfl
  refine v_X11_end (v_X10_cut ⟨fun c => ⟨0, rfl, bz_0, w, Or.inr ⟨?_, rfl, rfl⟩⟩, fun c => ⟨fun c2 => ⟨1, rfl, bz_1, ?_, Or.inl ⟨?_, ?_, rfl, rfl⟩⟩, fun c2 => ⟨0, rfl, bz_0, w, Or.inr ⟨?_, rfl, rfl⟩⟩⟩⟩)
  · have := y_ltr (n := 0) rfl c; omega
  · exact w.t rfl (y_nltr (n := 0) rfl c) (by have := z_le c2; omega)
  · exact y_nltr (n := 0) rfl c
  · exact z_le c2
  · have := z_nle c2; omega
theorem e_endM {x : Int32} (w : WT m) : Ct ad μX12_end (d + 1) [.ref (ad 187), .int x] m (fun r m' => WT m' ∧ Fx (RS [20, 21]) m m' ∧ (∀ k, m'.1 195 k = m.1 195 k) ∧ ((0 ≤ x.toInt ∧ x.toInt ≤ (m.1 187 14).toInt ∧ r = some (.int 1) ∧ m'.1 187 14 = x) ∨ (¬ (0 ≤ x.toInt ∧ x.toInt ≤ (m.1 187 14).toInt) ∧ r = some (.int 0) ∧ m'.1 187 14 = m.1 187 14))) := by
  have t := w.at (a := 187) (k := 14) rfl
  have z0 : (0 : Int32).toInt = 0 := rfl
  refine v_X12_end ((in_i (lo := 0) (hi := m.1 187 14) rfl rfl).to ?_)
  rintro _ m' ⟨eq, rfl⟩
  obtain rfl := eq.symm
  by_cases hc : 0 ≤ x ∧ x ≤ m.1 187 14
  · have c1 := z_le hc.1
    have c2 := z_le hc.2
    exact ⟨1, by rw [if_pos hc], fun _ => ⟨(w.n rfl).t rfl (by omega) (by omega), ((Fx.rf (S := RS [20, 21])).i rfl).i rfl, fun _ => rfl, Or.inl ⟨by omega, c2, rfl, rfl⟩⟩, fun z => absurd z (by decide)⟩
  · refine ⟨0, by rw [if_neg hc], fun z => absurd rfl z, fun _ => ⟨w.n rfl, Fx.rf.i rfl, fun _ => rfl, Or.inr ⟨fun q => hc ⟨(fa_le _ _).mpr (by omega), (fa_le _ _).mpr q.2⟩, rfl, rfl⟩⟩⟩
theorem os_end (hK : KD K K') (a : Int32) : Both ad d μX11_end μX12_end [.int a] (InvK K) (InvK K') := fun m I => by
  obtain ⟨w, ⟨h1, h2, h3⟩, k0⟩ := I
  have t1 : (m.1 1 1).toInt = (m.1 187 14).toInt := congrArg _ h2.1
  refine (e_endC (d := d + 299) w).to ?_
  rintro r m1 ⟨w1, h⟩
  rcases h with ⟨a1, a2, rfl, e⟩ | ⟨a1, rfl, e⟩
  · subst e
    have f1 : Fx (RS [0]) m (uI m 1 1 a) := Fx.rf.i rfl
    refine ⟨1, rfl, (e_endM (d := d + 299) w1).to ?_⟩
    rintro r m2 ⟨w2, f2, g, b⟩
    have e14 : (uI m 1 1 a).1 187 14 = m.1 187 14 := rfl
    rw [e14] at b
    rcases b with ⟨b1, b2, rfl, b3⟩ | ⟨b1, -⟩
    · have e11 : m2.1 1 1 = a := f2.at (a := 1) (k := 1) (by decide)
      refine ⟨rfl, w2, ⟨(h1.fx f1 rfl).fx f2 rfl, ⟨e11.trans b3.symm, fun k hk => ?_⟩, IV.sd ⟨h1, h2, h3⟩ f1 f2 rfl rfl⟩, hK f1 f2 k0 rfl rfl⟩
      rw [e11] at hk
      rw [f2.at (a := 2) (k := k) (nRS (ρ := 0) rfl rfl), g k]
      exact h2.2 k (by omega)
    · omega
  · subst e
    refine ⟨0, rfl, (e_endM (d := d + 299) w1).to ?_⟩
    rintro r m2 ⟨w2, f2, g, b⟩
    rcases b with ⟨b1, b2, -⟩ | ⟨b1, rfl, b3⟩
    · omega
    · have e11 : m2.1 1 1 = m1.1 1 1 := f2.at (a := 1) (k := 1) (by decide)
      refine ⟨rfl, w2, ⟨h1.fx f2 rfl, ⟨by rw [e11, b3]; exact h2.1, fun k hk => ?_⟩, IV.sd ⟨h1, h2, h3⟩ (Fx.rf (S := RS [])) f2 rfl rfl⟩, hK (Fx.rf (S := RS [])) f2 k0 rfl rfl⟩
      rw [e11] at hk
      rw [f2.at (a := 2) (k := k) (nRS (ρ := 0) rfl rfl), g k]
      exact h2.2 k hk
/-- the model's league() of an empty text -/
theorem e_leagueM0 (w : WT m) (ht : m.1 187 14 = 0) : Ct ad μX12_league (d + 5) [.ref (ad 187)] m (fun r m' => WT m' ∧ Fx (RS [20, 21, 22]) m m' ∧ r = some (.int 0) ∧ m'.1 187 14 = 0) := by
  have w0 : WT (uI m 187 17 0) := w.n rfl
  refine v_X12_league (d := d + 4) ((begin_ok (na := 80) rfl).to ?_)
  rintro _ m1 ⟨rfl, e1⟩
  have e1' : m1 = bgM (uI m 187 17 0) 195 (nI 0) (nI 76) := by rw [e1]; show bgM _ _ (m.1 187 14) _ = _; rw [ht]; rfl
  subst e1'
  clear e1
  have f1 : Fx (RS [22]) (uI m 187 17 0) (bgM (uI m 187 17 0) 195 (nI 0) (nI 76)) := bg_fx
  have P1 : PS 195 0 76 0 ((uI m 187 17 0).1 195) 0 (-1) (bgM (uI m 187 17 0) 195 (nI 0) (nI 76)) := bg_ps (by decide) (by decide)
  have w1 := w0.fx f1
  have F1 : Fx (RS [20, 21, 22]) m (bgM (uI m 187 17 0) 195 (nI 0) (nI 76)) := ((Fx.rf (S := RS [20, 21, 22]) (m := m)).i (a := 187) (k := 17) (v := 0) rfl).tr f1 (RS_sub rfl)
  generalize bgM (uI m 187 17 0) 195 (nI 0) (nI 76) = mb at f1 P1 w1 F1 ⊢
  have h19 : (uI mb 187 14 0).1 187 19 = nI 0 := P1.2.1
  refine ⟨rfl, fun c => ?_, fun _ => ⟨w1.t rfl (by decide) (by decide), F1.i rfl, rfl, rfl⟩⟩
  rw [h19] at c
  exact absurd rfl c
theorem lst_fr {n st dg ln sd ar fr st' dg' ln' sd' ar' fr' : Nat} {wp wp' : Bool} {il il' : Nat → Bool} {sk sk' : Nat → Int32} {c : Int32} (h : lst c st dg ln sd ar fr wp il sk = some (st', dg', ln', sd', ar', fr', wp', il', sk')) (hf : wp = false → fr = n) : wp' = false → fr' = n := by
  unfold lst lsk at h
  repeat' split at h
  all_goals first
    | (cases h; exact hf)
    | (cases h; intro q; cases q)
    | cases h
theorem LO_fr {n : Nat} {tx : Nat → Int32} {big : Bool} {st' dg' ln' sd' ar' fr' : Nat} {wp' : Bool} {il' : Nat → Bool} {sk' : Nat → Int32} : ∀ (k p st dg ln sd ar fr : Nat) (wp : Bool) (il : Nat → Bool) (sk : Nat → Int32), (wp = false → fr = n) → LO tx big k p (st, dg, ln, sd, ar, fr, wp, il, sk) = .inr (st', dg', ln', sd', ar', fr', wp', il', sk') → wp' = false → fr' = n := by
  intro k
  induction k with
  | zero =>
    intro p st dg ln sd ar fr wp il sk hf h
    by_cases c : big = false ∧ lEnd st dg ar
    · rw [LO_e c] at h; cases h; exact hf
    · rw [LO_n c] at h; cases h
  | succ k ih =>
    intro p st dg ln sd ar fr wp il sk hf h
    cases hl : lst (tx p) st dg ln sd ar fr wp il sk with
    | none => rw [LO_f hl] at h; cases h
    | some L =>
      obtain ⟨a1, a2, a3, a4, a5, a6, a7, a8, a9⟩ := L
      rw [LO_s hl] at h
      exact ih _ _ _ _ _ _ _ _ _ _ (lst_fr hl hf) h
/-- from K to K' over a league that was taken -/
def LGH (K K' : Wm → Prop) : Prop := ∀ (m m1 m2 : Wm) (n st dg ln sd ar fr : Nat) (wp : Bool) (il : Nat → Bool) (sk : Nat → Int32), InvK K m → m.1 3 3 = nI n → n ≤ 8 → WT m1 → WT m2 → Fx (RS [0, 3, 4, 7, 8, 13, 41, 42, 44, 53]) m m1 → Fx (RS [20, 21, 22, 23, 24, 25, 27, 29, 39, 45, 46, 52]) m1 m2 → (wp = false → fr = n) → lcV st dg sd ar fr wp → lgC m False (st, dg, ln, sd, ar, fr, wp, il, sk) m1 → lgE m1 ln sd ar fr wp il sk m2 → m2.1 3 3 = nI sd → K' m2
set_option maxHeartbeats 1000000 in
theorem os_league (hK : KD K K') (hL0 : LGH K K') : Both ad d μX11_league μX12_league [] (InvK K) (InvK K') := fun m I => by
  have IK := I
  obtain ⟨w, I0, kK⟩ := I
  have I1 := I0
  obtain ⟨h1, h2, h3, h4, h5⟩ := I0
  obtain ⟨n, en, -, -, n8, -⟩ := w.nat (a := 3) (k := 3) rfl (by decide)
  obtain ⟨a0, ea, -, a1, a4, -⟩ := w.nat (a := 187) (k := 0) rfl (by decide)
  obtain ⟨t, et, -, -, t80, -⟩ := w.nat (a := 1) (k := 1) rfl (by decide)
  have ht14 : m.1 187 14 = nI t := h2.1.symm.trans et
  have hsd : m.1 187 1 = nI n := h3.symm.trans en
  have har : m.1 3 4 = nI a0 := h4.trans ea
  by_cases ht0 : t = 0
  · subst ht0
    refine v_X11_league (d := d + 299) ⟨fun c => absurd et c, fun _ => ⟨0, rfl, (e_leagueM0 (d := d + 295) w ht14).to ?_⟩⟩
    rintro r m2 ⟨w2, f2, rfl, k14⟩
    have e11 : m2.1 1 1 = nI 0 := (f2.at (a := 1) (k := 1) (by decide)).trans et
    exact ⟨rfl, w2, ⟨h1.fx f2 rfl, TXI.zero (by rw [e11]; rfl) (by rw [k14]; rfl), IV.sd I1 (Fx.rf (S := RS [])) f2 rfl rfl⟩, hK (Fx.rf (S := RS [])) f2 kK rfl rfl⟩
  · refine (e_leagueC (d := d + 295) (HZ := False) (il0 := fun _ => false) (sk0 := m.1 22) w en (by omega) har (by omega) (by omega) et (by omega) ht0 (fun _ _ => rfl) (fun z => z.elim)).to ?_
    rintro r m1 ⟨w1, f1, g2, hq, hL⟩
    have g195 : m1.1 195 = m.1 195 := funext fun k => f1.at (nRS (ρ := 21) rfl rfl)
    have eO : LO (m.1 2) (decide (76 < t)) (minT t 76) 0 (0, 0, 0, n, a0, n, false, (fun _ => false), m.1 22) = LO (m1.1 195) (decide (76 < t)) (minT t 76) 0 (0, 0, 0, n, a0, n, false, (fun _ => false), m.1 22) := by
      rw [g195]
      refine LO_ch (fun j hj => h2.2 j ?_)
      have : minT t 76 ≤ t := by unfold minT; split <;> omega
      rw [et, nI_toInt (by omega)]
      omega
    rw [eO] at hq hL
    have k1 : m1.1 187 1 = nI n := (f1.at (a := 187) (k := 1) (nRS (ρ := 23) rfl rfl)).trans hsd
    have k0 : m1.1 187 0 = nI a0 := (f1.at (a := 187) (k := 0) (nRS (ρ := 23) rfl rfl)).trans ea
    have k14 : m1.1 187 14 = nI t := (f1.at (a := 187) (k := 14) (nRS (ρ := 21) rfl rfl)).trans ht14
    have hM := e_leagueM (ad := ad) (d := d + 295) w1 k1 (by omega) k0 (by omega) (by omega) k14 ht0 (by omega) (fun _ => false) (m.1 22)
    have hFr : ∀ st dg ln sd ar fr wp il sk, LO (m1.1 195) (decide (76 < t)) (minT t 76) 0 (0, 0, 0, n, a0, n, false, (fun _ => false), m.1 22) = .inr (st, dg, ln, sd, ar, fr, wp, il, sk) → wp = false → fr = n := fun _ _ _ _ _ _ _ _ _ h => LO_fr (n := n) _ _ _ _ _ _ _ _ _ _ _ (fun _ => rfl) h
    generalize LO (m1.1 195) (decide (76 < t)) (minT t 76) 0 (0, 0, 0, n, a0, n, false, (fun _ => false), m.1 22) = O at hq hL hM hFr
    cases O with
    | inl q =>
      obtain ⟨rfl, z11, F1⟩ := hq q rfl
      refine ⟨_, rfl, hM.to ?_⟩
      rintro r m2 ⟨⟨w2, f2, -, z14, -⟩, hq2, -⟩
      obtain ⟨rfl, F2⟩ := hq2 q rfl
      have e11 : m2.1 1 1 = 0 := (f2.at (a := 1) (k := 1) (nRS (ρ := 0) rfl rfl)).trans z11
      exact ⟨rfl, w2, ⟨(h1.fx F1 rfl).fx F2 rfl, TXI.zero (by rw [e11]; rfl) z14, IV.sd I1 F1 F2 rfl rfl⟩, hK F1 F2 kK rfl rfl⟩
    | inr L =>
      obtain ⟨st, dg, ln, sd, ar, fr, wp, il, sk⟩ := L
      have hL1 := hL st dg ln sd ar fr wp il sk rfl
      have hF := hFr st dg ln sd ar fr wp il sk rfl
      have hL2 := hL1.2.2
      obtain ⟨rfl, V, c1, c2, c3, c4, c5, c6, -⟩ := hL1
      refine ⟨_, rfl, hM.to ?_⟩
      rintro r m2 ⟨⟨w2, f2, -, z14, -⟩, -, hE⟩
      have hE1 := (hE st dg ln sd ar fr wp il sk rfl).2
      obtain ⟨rfl, b1, b2, b3, b4, b5, -⟩ := hE st dg ln sd ar fr wp il sk rfl
      have e11 : m2.1 1 1 = 0 := (f2.at (a := 1) (k := 1) (nRS (ρ := 0) rfl rfl)).trans c3
      have e33 : m2.1 3 3 = nI sd := (f2.at (a := 3) (k := 3) (nRS (ρ := 41) rfl rfl)).trans c1
      have e34 : m2.1 3 4 = nI ar := (f2.at (a := 3) (k := 4) (nRS (ρ := 41) rfl rfl)).trans c2
      have e15 : m2.1 0 15 = m1.1 0 15 := f2.at (a := 0) (k := 15) (nRS (ρ := 8) rfl rfl)
      have q10 : m1.1 187 10 = m.1 187 10 := f1.at (a := 187) (k := 10) (nRS (ρ := 25) rfl rfl)
      have q11 : m1.1 187 11 = m.1 187 11 := f1.at (a := 187) (k := 11) (nRS (ρ := 25) rfl rfl)
      have q52 : m1.1 187 52 = m.1 187 52 := f1.at (a := 187) (k := 52) (nRS (ρ := 39) rfl rfl)
      refine ⟨rfl, w2, ⟨?_, TXI.zero (by rw [e11]; rfl) z14, e33.trans b1.symm, e34.trans b2.symm, ?_⟩, hL0 m m1 m2 n st dg ln sd ar fr wp il sk IK en (by omega) w1 w2 f1 f2 hF V hL2 hE1 e33⟩
      · unfold RG
        cases wp with
        | true => left; have b5' : m2.1 187 10 = 0 ∧ m2.1 187 11 = 0 ∧ _ := b5; rw [b5'.2.1]; rfl
        | false => have b5' : m2.1 187 10 = m1.1 187 10 ∧ m2.1 187 11 = m1.1 187 11 ∧ _ := b5; rw [b5'.1, b5'.2.1, q10, q11]; exact h1
      · cases wp with
        | true =>
          have b5' : _ ∧ _ ∧ _ ∧ m2.1 187 52 = 0 := b5
          have c6' : _ ∧ m1.1 0 15 = 0 ∧ _ := c6
          rw [e15, c6'.2.1, b5'.2.2.2]
        | false =>
          have b5' : _ ∧ _ ∧ _ ∧ m2.1 187 52 = m1.1 187 52 := b5
          have c6' : _ ∧ m1.1 0 15 = m.1 0 15 ∧ _ := c6
          rw [e15, c6'.2.1, b5'.2.2.2, q52]
          exact h5
end OPA
end
section
/-! A READER THAT GOES SIGN BY SIGN -/
def MO {σ : Type} (stp : Int32 → σ → Option σ) (ok : σ → Bool) (tx : Nat → Int32) (big : Bool) : Nat → Nat → σ → Nat ⊕ σ
  | 0, p, S => if big = false ∧ ok S = true then .inr S else .inl p
  | k + 1, p, S => match stp (tx p) S with
    | none => .inl p
    | some S' => MO stp ok tx big k (p + 1) S'
section MOS
variable {σ : Type} {stp : Int32 → σ → Option σ} {ok : σ → Bool} {tx : Nat → Int32} {big : Bool} {k p e : Nat} {S S' : σ}
theorem MO_s (h : stp (tx p) S = some S') : MO stp ok tx big (k + 1) p S = MO stp ok tx big k (p + 1) S' := by
  show (match stp (tx p) S with | none => Sum.inl p | some S' => MO stp ok tx big k (p + 1) S') = _
  rw [h]
theorem MO_f (h : stp (tx p) S = none) : MO stp ok tx big (k + 1) p S = .inl p := by
  show (match stp (tx p) S with | none => Sum.inl p | some S' => MO stp ok tx big k (p + 1) S') = _
  rw [h]
theorem MO_e (h : big = false ∧ ok S = true) : MO stp ok tx big 0 p S = .inr S := if_pos h
theorem MO_n (h : ¬ (big = false ∧ ok S = true)) : MO stp ok tx big 0 p S = .inl p := if_neg h
theorem MO_ss (hp : p < e) (h : stp (tx p) S = some S') : MO stp ok tx big (e - p) p S = MO stp ok tx big (e - (p + 1)) (p + 1) S' := by
  rw [ep_s hp]; exact MO_s h
theorem MO_ff (h : p < e → stp (tx p) S = none) (h2 : ¬ p < e → ok S = false) : MO stp ok tx big (e - p) p S = .inl p := by
  by_cases hp : p < e
  · rw [ep_s hp]; exact MO_f (h hp)
  · rw [show e - p = 0 by omega]
    exact MO_n (fun q => by rw [h2 hp] at q; exact absurd q.2 (by decide))
theorem MO_ch {tb : Nat → Int32} (hs : ∀ c b S, CH c b → stp c S = stp b S) : ∀ {k p : Nat} {S : σ}, (∀ j, j < p + k → CH (tx j) (tb j)) → MO stp ok tx big k p S = MO stp ok tb big k p S := by
  intro k
  induction k with
  | zero => intro p S _; rfl
  | succ k ih =>
    intro p S h
    have e := hs _ _ S (h p (by omega))
    cases hl : stp (tb p) S with
    | none => rw [MO_f hl, MO_f (e.trans hl)]
    | some S' => rw [MO_s hl, MO_s (e.trans hl)]; exact ih (fun j hj => h j (by omega))
end MOS
/-- what a sign is not, if it is none below 128 -/
theorem CH.big {c b t : Int32} (a1 : b.toInt < 0) (a2 : 128 ≤ c.toInt) (h0 : 0 ≤ t.toInt) (h1 : t.toInt ≤ 127) : ¬ c = t ∧ ¬ b = t := by
  constructor
  · rintro rfl; omega
  · rintro rfl; omega
theorem CH.rng {c b : Int32} (a1 : b.toInt < 0) (a2 : 128 ≤ c.toInt) (a3 : c.toInt ≤ 255) : 80 ≤ (c - 48).toInt ∧ ((b - 48).toInt < 0 ∨ 80 ≤ (b - 48).toInt) := by
  have r := fb_rng b
  have z48 : (48 : Int32).toInt = 48 := rfl
  have e1 : (c - 48).toInt = c.toInt - 48 := ti_sub (by omega)
  have e2 : (b - 48).toInt = b.toInt - 48 ∨ (b - 48).toInt = b.toInt - 48 + 4294967296 := by
    rw [Int32.toInt_sub, z48, Int.bmod_def]
    by_cases hb : -2147483600 ≤ b.toInt
    · left; omega
    · right; omega
  omega
/-! THE PLAN'S TEXT, SIGN BY SIGN: what stands (0 a side is wanted, 1 it is there, 2 thrown, 3 the other one is wanted, 4 it is there, 5 thrown), rounds begun, games, digits used, who, against whom, thrown, where the rounds begin -/
abbrev PlS : Type := Nat × Nat × Nat × Int32 × (Nat → Int32) × (Nat → Int32) × (Nat → Int32) × (Nat → Nat)
def updN (f : Nat → Nat) (i v : Nat) : Nat → Nat := fun k => if k = i then v else f k
abbrev pSd (n : Nat) (us c : Int32) : Prop := (0 ≤ (c - 48).toInt ∧ (c - 48).toInt < n) ∧ ¬ ((us >>> ((c - 48) &&& 31)) &&& 1) = 1
def pBr (c : Int32) (rd gm : Nat) (us : Int32) (fi se th : Nat → Int32) (sn : Nat → Nat) : Option PlS :=
  if c = 59 then some (0, rd + 1, gm, 0, fi, se, th, updN sn rd gm) else if c = 44 then some (0, rd, gm, us, fi, se, th, sn) else none
def pst (n : Nat) (c : Int32) : PlS → Option PlS
  | (st, rd, gm, us, fi, se, th, sn) =>
    if st = 0 then (if rd ≤ 12 ∧ pSd n us c then some (1, rd, gm + 1, us ||| ((1 : Int32) <<< ((c - 48) &&& 31)), upd fi gm (c - 48), upd se gm (c - 48), upd th gm 0, sn) else none)
    else if st = 1 then (if c = 33 then some (2, rd, gm, us, fi, se, upd th (gm - 1) (th (gm - 1) ||| 1), sn) else if c = 45 then some (3, rd, gm, us, fi, se, th, sn) else none)
    else if st = 2 then (if c = 45 then some (3, rd, gm, us, fi, se, th, sn) else none)
    else if st = 3 then (if rd ≤ 12 ∧ pSd n us c then some (4, rd, gm, us ||| ((1 : Int32) <<< ((c - 48) &&& 31)), fi, upd se (gm - 1) (c - 48), th, sn) else none)
    else if st = 4 then (if c = 33 then some (5, rd, gm, us, fi, se, upd th (gm - 1) (th (gm - 1) ||| 2), sn) else pBr c rd gm us fi se th sn)
    else pBr c rd gm us fi se th sn
def pok : PlS → Bool
  | (st, _) => decide (st = 4 ∨ st = 5)
section PST
variable {n rd gm : Nat} {us c b : Int32} {fi se th : Nat → Int32} {sn : Nat → Nat}
theorem pst_ch (hn : n ≤ 8) (S : PlS) (h : CH c b) : pst n c S = pst n b S := by
  rcases h with ⟨-, -, rfl⟩ | ⟨a1, a2, a3⟩
  · rfl
  · obtain ⟨st, rd, gm, us, fi, se, th, sn⟩ := S
    obtain ⟨c33, b33⟩ := CH.big (t := 33) a1 a2 (by decide) (by decide)
    obtain ⟨c45, b45⟩ := CH.big (t := 45) a1 a2 (by decide) (by decide)
    obtain ⟨c59, b59⟩ := CH.big (t := 59) a1 a2 (by decide) (by decide)
    obtain ⟨c44, b44⟩ := CH.big (t := 44) a1 a2 (by decide) (by decide)
    obtain ⟨r1, r2⟩ := CH.rng a1 a2 a3
    have q1 : ¬ (rd ≤ 12 ∧ pSd n us c) := fun q => by have := q.2.1.2; omega
    have q2 : ¬ (rd ≤ 12 ∧ pSd n us b) := fun q => by have := q.2.1; omega
    unfold pst pBr
    simp only [c33, b33, c45, b45, c59, b59, c44, b44, if_false, if_neg q1, if_neg q2]
theorem pst_0 (h : rd ≤ 12) (hs : pSd n us c) : pst n c (0, rd, gm, us, fi, se, th, sn) = some (1, rd, gm + 1, us ||| ((1 : Int32) <<< ((c - 48) &&& 31)), upd fi gm (c - 48), upd se gm (c - 48), upd th gm 0, sn) := by
  unfold pst
  dsimp only
  rw [if_pos rfl, if_pos ⟨h, hs⟩]
theorem pst_0n (h : ¬ (rd ≤ 12 ∧ pSd n us c)) : pst n c (0, rd, gm, us, fi, se, th, sn) = none := by
  unfold pst
  dsimp only
  rw [if_pos rfl, if_neg h]
theorem pst_1t : pst n 33 (1, rd, gm, us, fi, se, th, sn) = some (2, rd, gm, us, fi, se, upd th (gm - 1) (th (gm - 1) ||| 1), sn) := by
  unfold pst
  dsimp only
  rw [if_neg (by decide), if_pos rfl, if_pos rfl]
theorem pst_1d : pst n 45 (1, rd, gm, us, fi, se, th, sn) = some (3, rd, gm, us, fi, se, th, sn) := by
  unfold pst
  dsimp only
  rw [if_neg (by decide), if_pos rfl, if_neg (by decide), if_pos rfl]
theorem pst_1n (h1 : c ≠ 33) (h2 : c ≠ 45) : pst n c (1, rd, gm, us, fi, se, th, sn) = none := by
  unfold pst
  dsimp only
  rw [if_neg (by decide), if_pos rfl, if_neg h1, if_neg h2]
theorem pst_2d : pst n 45 (2, rd, gm, us, fi, se, th, sn) = some (3, rd, gm, us, fi, se, th, sn) := by
  unfold pst
  dsimp only
  rw [if_neg (by decide), if_neg (by decide), if_pos rfl, if_pos rfl]
theorem pst_2n (h2 : c ≠ 45) : pst n c (2, rd, gm, us, fi, se, th, sn) = none := by
  unfold pst
  dsimp only
  rw [if_neg (by decide), if_neg (by decide), if_pos rfl, if_neg h2]
theorem pst_3 (h : rd ≤ 12) (hs : pSd n us c) : pst n c (3, rd, gm, us, fi, se, th, sn) = some (4, rd, gm, us ||| ((1 : Int32) <<< ((c - 48) &&& 31)), fi, upd se (gm - 1) (c - 48), th, sn) := by
  unfold pst
  dsimp only
  rw [if_neg (by decide), if_neg (by decide), if_neg (by decide), if_pos rfl, if_pos ⟨h, hs⟩]
theorem pst_3n (h : ¬ (rd ≤ 12 ∧ pSd n us c)) : pst n c (3, rd, gm, us, fi, se, th, sn) = none := by
  unfold pst
  dsimp only
  rw [if_neg (by decide), if_neg (by decide), if_neg (by decide), if_pos rfl, if_neg h]
theorem pst_4t : pst n 33 (4, rd, gm, us, fi, se, th, sn) = some (5, rd, gm, us, fi, se, upd th (gm - 1) (th (gm - 1) ||| 2), sn) := by
  unfold pst
  dsimp only
  rw [if_neg (by decide), if_neg (by decide), if_neg (by decide), if_neg (by decide), if_pos rfl, if_pos rfl]
theorem pst_4b (h : c ≠ 33) : pst n c (4, rd, gm, us, fi, se, th, sn) = pBr c rd gm us fi se th sn := by
  unfold pst
  dsimp only
  rw [if_neg (by decide), if_neg (by decide), if_neg (by decide), if_neg (by decide), if_pos rfl, if_neg h]
theorem pst_5b : pst n c (5, rd, gm, us, fi, se, th, sn) = pBr c rd gm us fi se th sn := by
  unfold pst
  dsimp only
  rw [if_neg (by decide), if_neg (by decide), if_neg (by decide), if_neg (by decide), if_neg (by decide)]
theorem pBr_s : pBr 59 rd gm us fi se th sn = some (0, rd + 1, gm, 0, fi, se, th, updN sn rd gm) := if_pos rfl
theorem pBr_c : pBr 44 rd gm us fi se th sn = some (0, rd, gm, us, fi, se, th, sn) := by
  unfold pBr
  rw [if_neg (by decide), if_pos rfl]
theorem pBr_n (h1 : c ≠ 59) (h2 : c ≠ 44) : pBr c rd gm us fi se th sn = none := by
  unfold pBr
  rw [if_neg h1, if_neg h2]
end PST
/-! bits of the digits used -/
theorem bit_q (x : Int32) {k : Nat} (hk : k < 31) : ((x >>> (nI k &&& 31)) &&& 1) = 1 ↔ bt x k = true := by
  have b1 : ∀ i : Fin 32, bt 1 i.val = decide (i.val = 0) := by decide +kernel
  have e : (x >>> (nI k &&& 31)) &&& 1 = if bt x k = true then 1 else 0 := by
    refine b_ext (fun i hi => ?_)
    rw [b_and, b_sshr k (by omega) x hi, b1 ⟨i, hi⟩]
    by_cases h0 : i = 0
    · subst h0
      rw [if_pos (by omega)]
      by_cases hb : bt x k = true
      · rw [if_pos hb]
        show (bt x k && decide (0 = 0)) = _
        rw [hb]; rfl
      · rw [if_neg hb]
        show (bt x k && decide (0 = 0)) = _
        rw [Bool.eq_false_iff.mpr hb]; rfl
    · have hd : decide (i = 0) = false := decide_eq_false h0
      show (_ && decide (i = 0)) = _
      rw [hd, Bool.and_false]
      by_cases hb : bt x k = true
      · rw [if_pos hb]
        have := b1 ⟨i, hi⟩
        rw [this]; exact hd.symm
      · rw [if_neg hb, b_0]
  rw [e]
  by_cases hb : bt x k = true
  · rw [if_pos hb]; exact ⟨fun _ => hb, fun _ => rfl⟩
  · rw [if_neg hb]; exact ⟨fun q => absurd q (by decide), fun q => absurd q hb⟩
theorem bt_1shl {j k : Nat} (hk : k < 31) (hj : j < 31) : bt ((1 : Int32) <<< (nI k &&& 31)) j = decide (j = k) := by
  have b1 : ∀ i : Fin 32, bt 1 i.val = decide (i.val = 0) := by decide +kernel
  rw [b_shl k (by omega) 1 (by omega)]
  by_cases h : k ≤ j
  · rw [b1 ⟨j - k, by omega⟩, decide_eq_true h, Bool.true_and]
    exact decide_eq_decide.mpr (by show j - k = 0 ↔ j = k; omega)
  · rw [decide_eq_false h, Bool.false_and]
    exact (decide_eq_false (by omega)).symm
/-- a digit that was used can't be used again -/
theorem used_ne {us a b : Int32} (ha : 0 ≤ a.toInt) (ha8 : a.toInt < 8) (hb : 0 ≤ b.toInt) (hb8 : b.toInt < 8) (h : ¬ (((us ||| ((1 : Int32) <<< (a &&& 31))) >>> (b &&& 31)) &&& 1) = 1) : a ≠ b := by
  rintro rfl
  obtain ⟨j, hj, rfl⟩ := zn_of ha
  rw [nI_toInt hj] at ha8
  refine h ((bit_q _ (by omega)).mpr ?_)
  rw [b_or, bt_1shl (by omega) (by omega)]
  simp
/-! ONE GAME, ONE ROUND, ALL OF THEM: the model's way is that of the signs -/
def GRel (n r g : Nat) (np fi se th : Nat → Int32) (sn : Nat → Nat) : Prop := ∀ j, j < g → np (4 * j) = fi j ∧ np (4 * j + 1) = se j ∧ np (4 * j + 2) = th j ∧ (0 ≤ (fi j).toInt ∧ (fi j).toInt < n) ∧ (0 ≤ (se j).toInt ∧ (se j).toInt < n) ∧ fi j ≠ se j ∧ (0 ≤ (th j).toInt ∧ (th j).toInt ≤ 3) ∧ ∃ ρ, ρ ≤ r ∧ np (4 * j + 3) = nI ρ ∧ sn ρ ≤ j ∧ (ρ < r → j < sn (ρ + 1))
def SRel (r g : Nat) (sn : Nat → Nat) : Prop := sn 0 = 0 ∧ (∀ ρ, ρ < r → sn ρ ≤ sn (ρ + 1)) ∧ sn r ≤ g
section PGM
variable {tx : Nat → Int32} {e n : Nat} {big : Bool} {O : Nat ⊕ PlS}
theorem sdF_e {used : Int32} {p : Nat} (hn : n ≤ 8) : sdF tx e n used (p, -1) = if p < e ∧ pSd n used (tx p) then (tx p - 48, (p + 1, -1)) else ((sdF tx e n used (p, -1)).1, (sdF tx e n used (p, -1)).2) := by
  by_cases h : p < e ∧ pSd n used (tx p)
  · rw [if_pos h]
    obtain ⟨h1, ⟨h2, h3⟩, h4⟩ := h
    have hd : digF tx e 0 9 (p, -1) = (tx p - 48, (p + 1, -1)) := by
      unfold digF
      rw [if_pos rfl, hr_in h1, if_pos ((dgi (lo := 0) (hi := 9) (l := 0) (u := 9) rfl rfl (by decide) (by decide)).mpr ⟨h2, by omega⟩)]
    unfold sdF
    rw [hd]
    dsimp only
    rw [if_pos rfl, if_pos ⟨(le1_iff (by omega)).mpr ⟨h2, h3⟩, h4⟩]
  · rw [if_neg h]
theorem sdF_n {used : Int32} {p : Nat} (hn : n ≤ 8) (hp : p < 1000) (h : ¬ (p < e ∧ pSd n used (tx p))) : (sdF tx e n used (p, -1)).2.2 = nI p := by
  unfold sdF
  by_cases hd : p < e ∧ 0 ≤ (tx p - 48).toInt ∧ (tx p - 48).toInt ≤ 9
  · have hdg : digF tx e 0 9 (p, -1) = (tx p - 48, (p + 1, -1)) := by
      unfold digF
      rw [if_pos rfl, hr_in hd.1, if_pos ((dgi (lo := 0) (hi := 9) (l := 0) (u := 9) rfl rfl (by decide) (by decide)).mpr hd.2)]
    rw [hdg]
    dsimp only
    rw [if_pos rfl, if_neg (fun q => h ⟨hd.1, (le1_iff (by omega)).mp q.1, q.2⟩)]
    show (fltF (nI (p + 1) - 1) (p + 1, -1)).2 = _
    unfold fltF
    rw [if_pos rfl, nI_pred]
  · have hdg : digF tx e 0 9 (p, -1) = (0, (p, nI p)) := by
      unfold digF
      rw [if_pos rfl, if_neg (fun q => hd (by
        by_cases hlt : p < e
        · rw [hr_in hlt] at q
          exact ⟨hlt, (dgi (lo := 0) (hi := 9) (l := 0) (u := 9) rfl rfl (by decide) (by decide)).mp q⟩
        · rw [hr_out hlt] at q
          exact absurd q.1 (by decide)))]
      unfold fltF
      rw [if_pos rfl]
    rw [hdg]
    dsimp only
    rw [if_neg (fun q => m1_ne p (by omega) q.symm)]
theorem sdF_d {used : Int32} {p : Nat} {w : Int32} (hw : ¬ w = -1) : (sdF tx e n used (p, w)).2 = (p, w) := by
  have hdg : digF tx e 0 9 (p, w) = (0, (p, w)) := by unfold digF; rw [if_neg hw]
  unfold sdF
  rw [hdg]
  dsimp only
  rw [if_neg hw]
theorem needF_e {c : Int32} {p : Nat} (hc : c ≠ -1) : needF tx e c (p, -1) = if p < e ∧ tx p = c then (p + 1, -1) else (p, nI p) := by
  unfold needF
  by_cases h : passF tx e c (p, -1) = true
  · rw [if_pos h, if_pos ((pass_iff hc).mp h)]
  · rw [if_neg h, if_neg (fun q => h ((pass_iff hc).mpr q))]
    unfold fltF
    rw [if_pos rfl]
theorem needF_d {c : Int32} {p : Nat} {w : Int32} (hw : ¬ w = -1) : needF tx e c (p, w) = (p, w) := by
  unfold needF
  rw [if_neg (pass_d hw)]
  exact flt_keep hw
/-- one game -/
theorem one_rel {used : Int32} {p rd gm : Nat} {fi se th : Nat → Int32} {sn : Nat → Nat} (hn : n ≤ 8) (he : e ≤ 80) (hp : p ≤ e) (hrd : rd ≤ 12) (hO : MO (pst n) pok tx big (e - p) p (0, rd, gm, used, fi, se, th, sn) = O) :
    ((oneG tx e n used (p, -1)).2.2.2 ≠ -1 → ∃ q, q ≤ e ∧ O = .inl q ∧ (oneG tx e n used (p, -1)).2.2.2 = nI q) ∧
    ((oneG tx e n used (p, -1)).2.2.2 = -1 → (oneG tx e n used (p, -1)).2.2.1 ≤ e ∧
      (∃ st, (st = 4 ∨ st = 5) ∧ (st = 4 → (oneG tx e n used (p, -1)).2.2.1 < e → tx (oneG tx e n used (p, -1)).2.2.1 ≠ 33) ∧
        MO (pst n) pok tx big (e - (oneG tx e n used (p, -1)).2.2.1) (oneG tx e n used (p, -1)).2.2.1 (st, rd, gm + 1, (oneG tx e n used (p, -1)).2.1, upd fi gm (oneG tx e n used (p, -1)).1.1, upd se gm (oneG tx e n used (p, -1)).1.2.2.1, upd th gm (b12 (oneG tx e n used (p, -1)).1.2.1 (oneG tx e n used (p, -1)).1.2.2.2), sn) = O) ∧
      (oneG tx e n used (p, -1)).1.1 ≠ (oneG tx e n used (p, -1)).1.2.2.1) := by
  by_cases h1 : p < e ∧ pSd n used (tx p)
  · -- the first side
    have eA : sdF tx e n used (p, -1) = (tx p - 48, (p + 1, -1)) := by rw [sdF_e hn, if_pos h1]
    rw [MO_ss h1.1 (pst_0 hrd h1.2)] at hO
    obtain ⟨q2, P1, th1, k2, hq2, hO2, hP1, hth1⟩ : ∃ q2 P1, ∃ th1 : Nat → Int32, ∃ k2 : Nat, (if passF tx e 33 (p + 1, -1) = true then p + 1 + 1 else p + 1) = q2 ∧ MO (pst n) pok tx big (e - q2) q2 (k2, rd, gm + 1, used ||| ((1 : Int32) <<< ((tx p - 48) &&& 31)), upd fi gm (tx p - 48), upd se gm (tx p - 48), th1, sn) = O ∧ passF tx e 33 (p + 1, -1) = P1 ∧ (th1 = upd th gm (if P1 = true then 1 else 0) ∧ q2 ≤ e ∧ (k2 = 2 ∨ (k2 = 1 ∧ (q2 < e → tx q2 ≠ 33)))) := by
      by_cases h33 : passF tx e 33 (p + 1, -1) = true
      · obtain ⟨g1, g2⟩ := (pass_iff (by decide)).mp h33
        rw [MO_ss g1 (by rw [g2]; exact pst_1t)] at hO
        refine ⟨p + 1 + 1, true, _, 2, if_pos h33, hO, h33, ?_, by omega, Or.inl rfl⟩
        rw [Nat.add_sub_cancel, fa_upd_twice]
        have e0 : upd th gm 0 gm ||| 1 = 1 := by
          have : upd th gm 0 gm = 0 := if_pos rfl
          rw [this]; rfl
        rw [e0]
        rfl
      · refine ⟨p + 1, false, _, 1, if_neg h33, hO, Bool.eq_false_iff.mpr h33, rfl, by omega, Or.inr ⟨rfl, fun q z => h33 ((pass_iff (by decide)).mpr ⟨q, z⟩)⟩⟩
    obtain ⟨hth1, hq2e, hk2⟩ := hth1
    by_cases h45 : q2 < e ∧ tx q2 = 45
    · have eN : needF tx e 45 (q2, -1) = (q2 + 1, -1) := by rw [needF_e (by decide), if_pos h45]
      have hO3 : MO (pst n) pok tx big (e - (q2 + 1)) (q2 + 1) (3, rd, gm + 1, used ||| ((1 : Int32) <<< ((tx p - 48) &&& 31)), upd fi gm (tx p - 48), upd se gm (tx p - 48), th1, sn) = O := by
        rcases hk2 with rfl | ⟨rfl, -⟩
        · rw [MO_ss h45.1 (by rw [h45.2]; exact pst_2d)] at hO2; exact hO2
        · rw [MO_ss h45.1 (by rw [h45.2]; exact pst_1d)] at hO2; exact hO2
      by_cases h2 : q2 + 1 < e ∧ pSd n (used ||| ((1 : Int32) <<< ((tx p - 48) &&& 31))) (tx (q2 + 1))
      · have eB : sdF tx e n (used ||| ((1 : Int32) <<< ((tx p - 48) &&& 31))) (q2 + 1, -1) = (tx (q2 + 1) - 48, (q2 + 1 + 1, -1)) := by rw [sdF_e hn, if_pos h2]
        rw [MO_ss h2.1 (pst_3 hrd h2.2)] at hO3
        rw [Nat.add_sub_cancel, fa_upd_twice] at hO3
        have hne : tx p - 48 ≠ tx (q2 + 1) - 48 := used_ne h1.2.1.1 (by have := h1.2.1.2; omega) h2.2.1.1 (by have := h2.2.1.2; omega) h2.2.2
        by_cases h33 : passF tx e 33 (q2 + 1 + 1, -1) = true
        · obtain ⟨g1, g2⟩ := (pass_iff (by decide)).mp h33
          rw [MO_ss g1 (by rw [g2]; exact pst_4t)] at hO3
          have hG : oneG tx e n used (p, -1) = ((tx p - 48, P1, tx (q2 + 1) - 48, true), (used ||| ((1 : Int32) <<< ((tx p - 48) &&& 31))) ||| ((1 : Int32) <<< ((tx (q2 + 1) - 48) &&& 31)), (q2 + 1 + 1 + 1, -1)) := by
            unfold oneG
            rw [eA]; dsimp only; rw [hP1]
            rw [hP1] at hq2
            rw [hq2, eN, eB]; dsimp only; rw [h33]; rfl
          rw [hG]
          refine ⟨fun q => absurd rfl q, fun _ => ⟨by show q2 + 1 + 1 + 1 ≤ e; omega, ⟨5, Or.inr rfl, fun q => absurd q (by decide), ?_⟩, hne⟩⟩
          rw [Nat.add_sub_cancel] at hO3
          have e1 : upd th1 gm (th1 gm ||| 2) = upd th gm (b12 P1 true) := by
            rw [hth1, fa_upd_twice]
            have : upd th gm (if P1 = true then (1 : Int32) else 0) gm = if P1 = true then 1 else 0 := if_pos rfl
            rw [this]
            cases P1 <;> rfl
          rw [e1] at hO3
          exact hO3
        · have hG : oneG tx e n used (p, -1) = ((tx p - 48, P1, tx (q2 + 1) - 48, false), (used ||| ((1 : Int32) <<< ((tx p - 48) &&& 31))) ||| ((1 : Int32) <<< ((tx (q2 + 1) - 48) &&& 31)), (q2 + 1 + 1, -1)) := by
            unfold oneG
            rw [eA]; dsimp only; rw [hP1]
            rw [hP1] at hq2
            rw [hq2, eN, eB]; dsimp only; rw [Bool.eq_false_iff.mpr h33]; rfl
          rw [hG]
          refine ⟨fun q => absurd rfl q, fun _ => ⟨by show q2 + 1 + 1 ≤ e; omega, ⟨4, Or.inl rfl, fun _ q z => h33 ((pass_iff (by decide)).mpr ⟨q, z⟩), ?_⟩, hne⟩⟩
          have e1 : th1 = upd th gm (b12 P1 false) := by
            rw [hth1]
            cases P1 <;> rfl
          rw [e1] at hO3
          exact hO3
      · -- no second side
        have hb := sdF_n (tx := tx) (e := e) (n := n) (p := q2 + 1) hn (by omega) h2
        have hw : (oneG tx e n used (p, -1)).2.2.2 = nI (q2 + 1) := by
          unfold oneG
          rw [eA]; dsimp only; rw [hP1]
          rw [hP1] at hq2
          rw [hq2, eN]; exact hb
        have hO4 : O = .inl (q2 + 1) := by
          rw [← hO3]
          exact MO_ff (fun q => pst_3n (fun z => h2 ⟨q, z.2⟩)) (fun _ => rfl)
        rw [hw]
        exact ⟨fun _ => ⟨q2 + 1, by omega, hO4, rfl⟩, fun q => absurd q.symm (m1_ne _ (by omega))⟩
    · -- no dash
      have eN : needF tx e 45 (q2, -1) = (q2, nI q2) := by rw [needF_e (by decide), if_neg h45]
      have hw1 : ¬ nI q2 = -1 := fun q => m1_ne q2 (by omega) q.symm
      have hw : (oneG tx e n used (p, -1)).2.2.2 = nI q2 := by
        unfold oneG
        rw [eA]; dsimp only; rw [hP1]
        rw [hP1] at hq2
        rw [hq2, eN, sdF_d hw1]
      have hO4 : O = .inl q2 := by
        rw [← hO2]
        rcases hk2 with rfl | ⟨rfl, h33⟩
        · exact MO_ff (fun q => pst_2n (fun z => h45 ⟨q, z⟩)) (fun _ => rfl)
        · exact MO_ff (fun q => pst_1n (h33 q) (fun z => h45 ⟨q, z⟩)) (fun _ => rfl)
      rw [hw]
      exact ⟨fun _ => ⟨q2, hq2e, hO4, rfl⟩, fun q => absurd q hw1⟩
  · -- no first side
    have hb := sdF_n (tx := tx) (e := e) (n := n) (used := used) hn (by omega : p < 1000) h1
    have hw1 : ¬ nI p = -1 := fun q => m1_ne p (by omega) q.symm
    have hw : (oneG tx e n used (p, -1)).2.2.2 = nI p := by
      unfold oneG
      dsimp only
      generalize sdF tx e n used (p, -1) = A at hb
      obtain ⟨a1, q1, u1⟩ := A
      dsimp only at hb ⊢
      subst hb
      rw [Bool.eq_false_iff.mpr (pass_d (tx := tx) (e := e) (c := 33) (p := q1) hw1)]
      rw [if_neg (by decide), needF_d hw1, sdF_d hw1]
    have hO4 : O = .inl p := by
      rw [← hO]
      exact MO_ff (fun q => pst_0n (fun z => h1 ⟨q, z.2⟩)) (fun _ => rfl)
    rw [hw]
    exact ⟨fun _ => ⟨p, hp, hO4, rfl⟩, fun q => absurd q hw1⟩
theorem gm_cons {r k g : Nat} {used : Int32} {np : Nat → Int32} {p : Nat} : gmF tx e n r (k + 1) used g np (p, -1) = if (oneG tx e n used (p, -1)).2.2.2 = -1 then
    (if passF tx e 44 (oneG tx e n used (p, -1)).2.2 = true then gmF tx e n r k (oneG tx e n used (p, -1)).2.1 (g + 1) (upG np g r (oneG tx e n used (p, -1)).1) ((oneG tx e n used (p, -1)).2.2.1 + 1, (oneG tx e n used (p, -1)).2.2.2) else (g + 1, upG np g r (oneG tx e n used (p, -1)).1, (oneG tx e n used (p, -1)).2.2))
    else (g, np, (oneG tx e n used (p, -1)).2.2) := if_pos rfl
theorem gm_dead {r k g : Nat} {used : Int32} {np : Nat → Int32} {p : Nat} {w : Int32} (hw : ¬ w = -1) : gmF tx e n r k used g np (p, w) = (g, np, (p, w)) := by
  cases k with
  | zero => rfl
  | succ k => exact if_neg hw
theorem b12_r (b c : Bool) : 0 ≤ (b12 b c).toInt ∧ (b12 b c).toInt ≤ 3 := by cases b <;> cases c <;> decide
theorem upd_e {f : Nat → Int32} {i : Nat} {v : Int32} : upd f i v i = v := if_pos rfl
theorem upd_n {f : Nat → Int32} {i j : Nat} {v : Int32} (h : j ≠ i) : upd f i v j = f j := if_neg h
theorem GRel.add {r g : Nat} {np fi se th : Nat → Int32} {sn : Nat → Nat} (h : GRel n r g np fi se th sn) (hs : sn r ≤ g) {G : Int32 × Bool × Int32 × Bool} (h1 : 0 ≤ G.1.toInt ∧ G.1.toInt < n) (h2 : 0 ≤ G.2.2.1.toInt ∧ G.2.2.1.toInt < n) (h3 : G.1 ≠ G.2.2.1) :
    GRel n r (g + 1) (upG np g r G) (upd fi g G.1) (upd se g G.2.2.1) (upd th g (b12 G.2.1 G.2.2.2)) sn := by
  intro j hj
  unfold upG
  by_cases hjg : j = g
  · subst hjg
    refine ⟨?_, ?_, ?_, ?_, ?_, ?_, ?_, r, Nat.le_refl _, ?_, hs, fun q => absurd q (Nat.lt_irrefl _)⟩
    · rw [upd_n (by omega), upd_n (by omega), upd_n (by omega), upd_e, upd_e]
    · rw [upd_n (by omega), upd_n (by omega), upd_e, upd_e]
    · rw [upd_n (by omega), upd_e, upd_e]
    · rw [upd_e]; exact h1
    · rw [upd_e]; exact h2
    · rw [upd_e, upd_e]; exact h3
    · rw [upd_e]; exact b12_r _ _
    · rw [upd_e]
  · obtain ⟨a1, a2, a3, a4, a5, a6, a7, ρ, b1, b2, b3, b4⟩ := h j (by omega)
    rw [upd_n hjg, upd_n hjg, upd_n hjg]
    refine ⟨?_, ?_, ?_, a4, a5, a6, a7, ρ, b1, ?_, b3, b4⟩
    · rw [upd_n (by omega), upd_n (by omega), upd_n (by omega), upd_n (by omega)]; exact a1
    · rw [upd_n (by omega), upd_n (by omega), upd_n (by omega), upd_n (by omega)]; exact a2
    · rw [upd_n (by omega), upd_n (by omega), upd_n (by omega), upd_n (by omega)]; exact a3
    · rw [upd_n (by omega), upd_n (by omega), upd_n (by omega), upd_n (by omega)]; exact b2
/-- one round -/
theorem gm_rel {r : Nat} {sn : Nat → Nat} (hn : n ≤ 8) (he : e ≤ 80) (hrd : r + 1 ≤ 12) : ∀ (k : Nat) (used : Int32) (g : Nat) (np : Nat → Int32) (p : Nat) (fi se th : Nat → Int32), e - p < k → p ≤ e → GRel n r g np fi se th sn → sn r ≤ g → MO (pst n) pok tx big (e - p) p (0, r + 1, g, used, fi, se, th, sn) = O →
    ((gmF tx e n r k used g np (p, -1)).2.2.2 ≠ -1 → ∃ q, q ≤ e ∧ O = .inl q ∧ (gmF tx e n r k used g np (p, -1)).2.2.2 = nI q) ∧
    ((gmF tx e n r k used g np (p, -1)).2.2.2 = -1 → (gmF tx e n r k used g np (p, -1)).2.2.1 ≤ e ∧ g < (gmF tx e n r k used g np (p, -1)).1 ∧
      ∃ st us fi' se' th', (st = 4 ∨ st = 5) ∧ (st = 4 → (gmF tx e n r k used g np (p, -1)).2.2.1 < e → tx (gmF tx e n r k used g np (p, -1)).2.2.1 ≠ 33) ∧ ((gmF tx e n r k used g np (p, -1)).2.2.1 < e → tx (gmF tx e n r k used g np (p, -1)).2.2.1 ≠ 44) ∧
        MO (pst n) pok tx big (e - (gmF tx e n r k used g np (p, -1)).2.2.1) (gmF tx e n r k used g np (p, -1)).2.2.1 (st, r + 1, (gmF tx e n r k used g np (p, -1)).1, us, fi', se', th', sn) = O ∧
        GRel n r (gmF tx e n r k used g np (p, -1)).1 (gmF tx e n r k used g np (p, -1)).2.1 fi' se' th' sn) := by
  intro k
  induction k with
  | zero => intros; omega
  | succ k ih =>
    intro used g np p fi se th hk hp hG hs hO
    have h2 := oneG_2 (tx := tx) (e := e) hn (used := used) (s := (p, -1)) (by show p ≤ 80; omega)
    obtain ⟨r1, r2⟩ := one_rel hn he hp hrd hO
    rw [gm_cons]
    generalize oneG tx e n used (p, -1) = R at h2 r1 r2 ⊢
    obtain ⟨G, u2, q5, u4⟩ := R
    dsimp only at h2 r1 r2 ⊢
    by_cases hu : u4 = -1
    · subst hu
      rw [if_pos rfl]
      obtain ⟨-, g1, g2, gl⟩ := h2 rfl
      obtain ⟨k1, ⟨st, k2, k3, k4⟩, k5⟩ := r2 rfl
      have hG' := hG.add hs g1 g2 k5
      by_cases h44 : passF tx e 44 (q5, -1) = true
      · rw [if_pos h44]
        obtain ⟨c1, c2⟩ := (pass_iff (by decide)).mp h44
        have hst : pst n (tx q5) (st, r + 1, g + 1, u2, upd fi g G.1, upd se g G.2.2.1, upd th g (b12 G.2.1 G.2.2.2), sn) = some (0, r + 1, g + 1, u2, upd fi g G.1, upd se g G.2.2.1, upd th g (b12 G.2.1 G.2.2.2), sn) := by
          rw [c2]
          rcases k2 with rfl | rfl
          · rw [pst_4b (by decide)]; exact pBr_c
          · rw [pst_5b]; exact pBr_c
        rw [MO_ss c1 hst] at k4
        have := ih u2 (g + 1) _ (q5 + 1) _ _ _ (by omega) (by omega) hG' (by omega) k4
        refine ⟨this.1, fun q => ?_⟩
        obtain ⟨a1, a2, a3⟩ := this.2 q
        exact ⟨a1, by omega, a3⟩
      · rw [if_neg h44]
        refine ⟨fun q => absurd rfl q, fun _ => ⟨k1, by show g < g + 1; omega, st, u2, _, _, _, k2, k3, fun q z => h44 ((pass_iff (by decide)).mpr ⟨q, z⟩), k4, hG'⟩⟩
    · rw [if_neg hu]
      exact ⟨r1, fun q => absurd q hu⟩
theorem rd_cons {r k g : Nat} {np : Nat → Int32} {p : Nat} : rdF tx e n (k + 1) r g np (p, -1) = (if passF tx e 59 (gmF tx e n r 81 0 g np (if r = 12 then fltF (nI p) (p, -1) else (p, -1))).2.2 = true then rdF tx e n k (r + 1) (gmF tx e n r 81 0 g np (if r = 12 then fltF (nI p) (p, -1) else (p, -1))).1 (gmF tx e n r 81 0 g np (if r = 12 then fltF (nI p) (p, -1) else (p, -1))).2.1 ((gmF tx e n r 81 0 g np (if r = 12 then fltF (nI p) (p, -1) else (p, -1))).2.2.1 + 1, (gmF tx e n r 81 0 g np (if r = 12 then fltF (nI p) (p, -1) else (p, -1))).2.2.2) else (r + 1, (gmF tx e n r 81 0 g np (if r = 12 then fltF (nI p) (p, -1) else (p, -1))).1, (gmF tx e n r 81 0 g np (if r = 12 then fltF (nI p) (p, -1) else (p, -1))).2.1, (gmF tx e n r 81 0 g np (if r = 12 then fltF (nI p) (p, -1) else (p, -1))).2.2)) := if_pos rfl
theorem updN_e {f : Nat → Nat} {i v : Nat} : updN f i v i = v := if_pos rfl
theorem updN_n {f : Nat → Nat} {i j v : Nat} (h : j ≠ i) : updN f i v j = f j := if_neg h
/-- all rounds -/
theorem rd_rel (hn : n ≤ 8) (he : e ≤ 80) : ∀ (k r g : Nat) (np : Nat → Int32) (p : Nat) (fi se th : Nat → Int32) (sn : Nat → Nat), 13 ≤ k + r → r ≤ 12 → p ≤ e → GRel n r g np fi se th sn → SRel r g sn → MO (pst n) pok tx big (e - p) p (0, r + 1, g, 0, fi, se, th, sn) = O →
    ((rdF tx e n k r g np (p, -1)).2.2.2.2 ≠ -1 → ∃ q, q ≤ e ∧ O = .inl q ∧ (rdF tx e n k r g np (p, -1)).2.2.2.2 = nI q) ∧
    ((rdF tx e n k r g np (p, -1)).2.2.2.2 = -1 → (rdF tx e n k r g np (p, -1)).2.2.2.1 ≤ e ∧ 1 ≤ (rdF tx e n k r g np (p, -1)).1 ∧ (rdF tx e n k r g np (p, -1)).1 ≤ 12 ∧ g < (rdF tx e n k r g np (p, -1)).2.1 ∧
      ∃ st us fi' se' th' sn', (st = 4 ∨ st = 5) ∧ (st = 4 → (rdF tx e n k r g np (p, -1)).2.2.2.1 < e → tx (rdF tx e n k r g np (p, -1)).2.2.2.1 ≠ 33) ∧ ((rdF tx e n k r g np (p, -1)).2.2.2.1 < e → tx (rdF tx e n k r g np (p, -1)).2.2.2.1 ≠ 44 ∧ tx (rdF tx e n k r g np (p, -1)).2.2.2.1 ≠ 59) ∧
        MO (pst n) pok tx big (e - (rdF tx e n k r g np (p, -1)).2.2.2.1) (rdF tx e n k r g np (p, -1)).2.2.2.1 (st, (rdF tx e n k r g np (p, -1)).1, (rdF tx e n k r g np (p, -1)).2.1, us, fi', se', th', sn') = O ∧
        GRel n ((rdF tx e n k r g np (p, -1)).1 - 1) (rdF tx e n k r g np (p, -1)).2.1 (rdF tx e n k r g np (p, -1)).2.2.1 fi' se' th' sn' ∧ SRel ((rdF tx e n k r g np (p, -1)).1 - 1) (rdF tx e n k r g np (p, -1)).2.1 sn') := by
  intro k
  induction k with
  | zero => intros; omega
  | succ k ih =>
    intro r g np p fi se th sn hk hr hp hG hS hO
    rw [rd_cons]
    by_cases h12 : r = 12
    · have hw1 : ¬ nI p = -1 := fun q => m1_ne p (by omega) q.symm
      have e1 : (if r = 12 then fltF (nI p) (p, -1) else (p, -1)) = (p, nI p) := by
        rw [if_pos h12]
        show (if (-1 : Int32) = -1 then (p, nI p) else (p, -1)) = _
        rw [if_pos rfl]
      rw [e1, gm_dead hw1]
      dsimp only
      rw [if_neg (pass_d hw1)]
      have hO4 : O = .inl p := by
        rw [← hO]
        exact MO_ff (fun q => pst_0n (fun z => by omega)) (fun _ => rfl)
      exact ⟨fun _ => ⟨p, hp, hO4, rfl⟩, fun q => absurd q hw1⟩
    · have e1 : (if r = 12 then fltF (nI p) (p, -1) else (p, -1)) = (p, -1) := if_neg h12
      rw [e1]
      obtain ⟨r1, r2⟩ := gm_rel hn he (by omega : r + 1 ≤ 12) 81 0 g np p fi se th (by omega) hp hG hS.2.2 hO
      generalize gmF tx e n r 81 0 g np (p, -1) = R at r1 r2 ⊢
      obtain ⟨g', np', q, w⟩ := R
      dsimp only at r1 r2 ⊢
      by_cases hw : w = -1
      · subst hw
        obtain ⟨k1, k2, st, us, fi', se', th', k3, k4, k5, k6, k7⟩ := r2 rfl
        by_cases h59 : passF tx e 59 (q, -1) = true
        · rw [if_pos h59]
          obtain ⟨c1, c2⟩ := (pass_iff (by decide)).mp h59
          have hst : pst n (tx q) (st, r + 1, g', us, fi', se', th', sn) = some (0, r + 1 + 1, g', 0, fi', se', th', updN sn (r + 1) g') := by
            rw [c2]
            rcases k3 with rfl | rfl
            · rw [pst_4b (by decide)]; exact pBr_s
            · rw [pst_5b]; exact pBr_s
          rw [MO_ss c1 hst] at k6
          have hG' : GRel n (r + 1) g' np' fi' se' th' (updN sn (r + 1) g') := by
            intro j hj
            obtain ⟨a1, a2, a3, a4, a5, a6, a7, ρ, b1, b2, b3, b4⟩ := k7 j hj
            refine ⟨a1, a2, a3, a4, a5, a6, a7, ρ, by omega, b2, by rw [updN_n (by omega)]; exact b3, fun _ => ?_⟩
            by_cases hρ : ρ = r
            · rw [hρ, updN_e]; exact hj
            · rw [updN_n (by omega)]; exact b4 (by omega)
          have hS' : SRel (r + 1) g' (updN sn (r + 1) g') := by
            obtain ⟨s1, s2, s3⟩ := hS
            refine ⟨by rw [updN_n (by omega)]; exact s1, fun ρ hρ => ?_, by rw [updN_e]; exact Nat.le_refl _⟩
            by_cases hρ2 : ρ = r
            · rw [hρ2, updN_e, updN_n (by omega)]; omega
            · rw [updN_n (by omega), updN_n (by omega)]; exact s2 ρ (by omega)
          have := ih (r + 1) g' np' (q + 1) fi' se' th' _ (by omega) (by omega) (by omega) hG' hS' k6
          refine ⟨this.1, fun z => ?_⟩
          obtain ⟨a1, a2, a3, a4, a5⟩ := this.2 z
          exact ⟨a1, a2, a3, by omega, a5⟩
        · rw [if_neg h59]
          refine ⟨fun z => absurd rfl z, fun _ => ⟨k1, by show 1 ≤ r + 1; omega, by show r + 1 ≤ 12; omega, k2, st, us, fi', se', th', sn, k3, k4, fun z => ⟨k5 z, fun z2 => h59 ((pass_iff (by decide)).mpr ⟨z, z2⟩)⟩, k6, k7, hS.1, hS.2.1, ?_⟩⟩
          have := hS.2.2
          show sn r ≤ g'
          omega
      · rw [if_neg (pass_d hw)]
        exact ⟨r1, fun q => absurd q hw⟩
end PGM
end
