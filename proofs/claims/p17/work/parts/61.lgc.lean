/-! THE LEAGUE'S TEXT AS THE CLASS READS IT: sign by sign, into the draft -/
theorem c_ne {m : Wm} {a0 a s e n b j : Nat} (h : b ≠ a) : (uC m a0 a s e n).1 b j = m.1 b j := if_neg h
theorem c_at {m : Wm} {a0 a s e n j : Nat} (hs : s = 0) (he : e = 0) (h : j < n) : (uC m a0 a s e n).1 a j = m.1 a0 j := by
  subst hs he
  show (if a = a then va_cpy (m.1 a0) (m.1 a) 0 0 n j else m.1 a j) = _
  rw [if_pos rfl]
  show (if 0 ≤ j ∧ j < 0 + n then m.1 a0 (0 + (j - 0)) else m.1 a j) = _
  rw [if_pos ⟨Nat.zero_le _, by omega⟩, Nat.zero_add, Nat.sub_zero]
section CPY
variable {ad : Nat → Nat} {d : Nat} {m : Wm}
theorem e_copy {b0 b1 ρ0 ρ1 : Nat} (w : WT m) (hb0 : SS b0 ρ0) (hb1 : SS b1 ρ1) (hd : b1 + 4 < b0 ∨ b0 + 4 < b1) : Ct ad μX8_copy (d + 1) [.ref (ad b0), .ref (ad b1)] m (fun r m' => WT m' ∧ Fx (RS (ρ0 :: [])) m m' ∧ r = none ∧ (∀ k, k < 32 → m'.1 (b0 + 1) k = m.1 (b1 + 1) k) ∧ (∀ j k, 2 ≤ j → j ≤ 4 → k < 8 → m'.1 (b0 + j) k = m.1 (b1 + j) k) ∧ m'.1 b0 4 = m.1 b1 4) := by
  have h := hb0.2
  refine v_X8_copy hb0.1 hb1.1 ⟨by decide, by decide, by decide, by decide, by decide, by decide, by decide, by decide, by decide, by decide, by decide, by decide, by decide, by decide, by decide, by decide, by decide, by decide, by decide, by decide, ?_⟩
  refine ⟨((((w.c (fun k => (h 1 k (by decide)).2)).c (fun k => (h 2 k (by decide)).2)).c (fun k => (h 3 k (by decide)).2)).c (fun k => (h 4 k (by decide)).2)).s0 h, ((((Fx.rf.c (fun k => RS_hd h (by decide))).c (fun k => RS_hd h (by decide))).c (fun k => RS_hd h (by decide))).c (fun k => RS_hd h (by decide))).i (RS_hd0 h), rfl, fun k hk => ?_, fun j k h2 h4 hk => ?_, ?_⟩
  · exact (u_ne (by omega)).trans ((c_ne (by omega)).trans ((c_ne (by omega)).trans ((c_ne (by omega)).trans (c_at rfl rfl hk))))
  · have hj : j = 2 ∨ j = 3 ∨ j = 4 := by omega
    rcases hj with rfl | rfl | rfl
    · exact (u_ne (by omega)).trans ((c_ne (by omega)).trans ((c_ne (by omega)).trans ((c_at rfl rfl hk).trans (c_ne (by omega)))))
    · exact (u_ne (by omega)).trans ((c_ne (by omega)).trans ((c_at rfl rfl hk).trans ((c_ne (by omega)).trans (c_ne (by omega)))))
    · exact (u_ne (by omega)).trans ((c_at rfl rfl hk).trans ((c_ne (by omega)).trans ((c_ne (by omega)).trans (c_ne (by omega)))))
  · exact u_eq.trans ((c_ne (by omega)).trans ((c_ne (by omega)).trans ((c_ne (by omega)).trans (c_ne (by omega)))))
theorem e_putS {b0 i : Nat} {x1 x2 x3 : Int32} (hb0 : St b0) (h : x1 * 4 + x2 = nI i) (hi : i < 32) : Ct ad μX8_putSkill d [.ref (ad b0), .int x1, .int x2, .int x3] m (fun r m' => r = none ∧ m' = uI m (b0 + 1) i x3) := by
  refine v_X8_putSkill hb0 ?_
  rw [h]
  refine ⟨fun c => absurd c (nI_pos (by omega)), fun _ => ⟨fun c => absurd ((le_l 32 32 rfl (by decide) (by omega)).mp c) (by omega), fun _ => ⟨nat_in hi (by decide), rfl, ?_⟩⟩⟩
  rw [nI_clamp (by omega)]
def clrP (b s : Nat) (m m' : Wm) : Prop := (∀ k, m'.1 (b + 1) k = if 4 * s ≤ k ∧ k < 4 * s + 4 then 0 else m.1 (b + 1) k) ∧ (∀ j t, 2 ≤ j → j ≤ 4 → m'.1 (b + j) t = if t = s then 0 else m.1 (b + j) t) ∧ (∀ a k, a < b + 1 ∨ b + 4 < a → m'.1 a k = m.1 a k) ∧ m'.2 = m.2
theorem e_clear {b0 s : Nat} (hb0 : St b0) (hs : s < 8) : Ct ad μX8_clearSide (d + 1) [.ref (ad b0), .int (nI s)] m (fun r m' => r = none ∧ clrP b0 s m m') := by
  have L : ∀ (j a : Nat) (m1 : Wm), a + j = 4 → (∀ k, m1.1 (b0 + 1) k = if 4 * s ≤ k ∧ k < 4 * s + a then 0 else m.1 (b0 + 1) k) → (∀ c k, c ≠ b0 + 1 → m1.1 c k = m.1 c k) → m1.2 = m.2 →
      AW ad E0 μX8_clearSide (d + 1) (fun r m' => r = none ∧ clrP b0 s m m') 2 [(0, .ref (ad b0)), (1, .int (nI s)), (2, .int (nI a))] [] m1 := by
    intro j
    induction j with
    | zero =>
      intro a m1 ha h1 h2 h3
      obtain rfl : a = 4 := ha
      have v := nat_in hs (show (8 : Nat) < 2147483648 by decide)
      refine g_X8_clearSide_2 hb0 ⟨fun _ => ⟨v, v, v, rfl, fun k => ?_, fun j t hj1 hj2 => ?_, fun a k ha => ?_, h3⟩, fun c => absurd ((le_l 4 4 rfl (by omega) (by omega)).mpr (by omega)) c⟩
      · exact (u_ne (by omega)).trans ((u_ne (by omega)).trans ((u_ne (by omega)).trans (h1 k)))
      · rw [nI_clamp (by omega)]
        have hj : j = 2 ∨ j = 3 ∨ j = 4 := by omega
        by_cases hts : t = s
        · rw [if_pos hts, hts]
          rcases hj with rfl | rfl | rfl
          · exact (u_ne (by omega)).trans ((u_ne (by omega)).trans u_eq)
          · exact (u_ne (by omega)).trans u_eq
          · exact u_eq
        · rw [if_neg hts]
          exact (u_ne (fun q => hts q.2)).trans ((u_ne (fun q => hts q.2)).trans ((u_ne (fun q => hts q.2)).trans (h2 _ _ (by omega))))
      · exact (u_ne (by omega)).trans ((u_ne (by omega)).trans ((u_ne (by omega)).trans (h2 _ _ (by omega))))
    | succ j ih =>
      intro a m1 ha h1 h2 h3
      refine g_X8_clearSide_2 hb0 ⟨fun c => absurd ((le_l 4 4 rfl (by omega) (by omega)).mp c) (by omega), fun _ => (e_putS (i := 4 * s + a) hb0 (by rw [mul_l 4 4 rfl, nI_add, Nat.mul_comm s 4]) (by omega)).to ?_⟩
      rintro _ m2 ⟨rfl, e⟩
      subst e
      refine ⟨rfl, ?_⟩
      rw [nI_1]
      refine ih (a + 1) _ (by omega) (fun k => ?_) (fun c k hc => (u_ne (fun q => hc q.1)).trans (h2 c k hc)) h3
      by_cases hk : k = 4 * s + a
      · rw [hk, if_pos (by omega)]
        exact u_eq
      · refine (u_ne (fun q => hk q.2)).trans ((h1 k).trans ?_)
        by_cases hc : 4 * s ≤ k ∧ k < 4 * s + a
        · rw [if_pos hc, if_pos (by omega)]
        · rw [if_neg hc, if_neg (by omega)]
  exact v_X8_clearSide hb0 (L 4 0 m rfl (fun k => by rw [if_neg (by omega)]) (fun _ _ _ => rfl) rfl)
theorem clr16 {s : Nat} {m' : Wm} (h : clrP 16 s m m') (w : WT m) : WT m' ∧ Fx (RS [3]) m m' := by
  obtain ⟨h1, h2, h3, h4⟩ := h
  have hr : ∀ a k, ¬ RS [3] a k → a < 17 ∨ 20 < a := by
    intro a k hk
    by_cases q : a < 17 ∨ 20 < a
    · exact q
    · have : a = 17 ∨ a = 18 ∨ a = 19 ∨ a = 20 := by omega
      rcases this with rfl | rfl | rfl | rfl <;> exact absurd rfl hk
  have ht : ∀ a k, TY a k ≠ none → a < 17 ∨ 20 < a := by
    intro a k hk
    by_cases q : a < 17 ∨ 20 < a
    · exact q
    · have : a = 17 ∨ a = 18 ∨ a = 19 ∨ a = 20 := by omega
      rcases this with rfl | rfl | rfl | rfl <;> exact absurd rfl hk
  exact ⟨w.same (fun a k hk => h3 a k (ht a k hk)) (by rw [h4]), fun a k hk => ⟨h3 a k (hr a k hk), by rw [h4], by rw [h4]⟩⟩
end CPY
/-- what the draft and the reader's numbers hold; m0: the world when the reading began -/
def lcV (st dg sd ar fr : Nat) (wp : Bool) : Prop := st ≤ 3 ∧ sd ≤ 8 ∧ 1 ≤ ar ∧ ar ≤ 4 ∧ fr ≤ sd ∧ (st = 2 → fr < sd ∧ dg ≤ ar) ∧ (wp = true → fr = 0)
def LC (m0 : Wm) (HZ : Prop) (st dg ln sd ar fr : Nat) (wp : Bool) (il : Nat → Bool) (sk : Nat → Int32) (m : Wm) : Prop :=
  m.1 15 6 = nI st ∧ (st = 2 → m.1 15 5 = nI dg) ∧ m.1 15 4 = nI ln ∧ m.1 15 1 = nI sd ∧ m.1 15 2 = nI ar ∧ m.1 15 7 = (if wp = true then 1 else 0) ∧ m.1 16 4 = m0.1 21 4 ∧
  (HZ → ∀ s, s < 8 → bt (m.1 15 3) s = (decide (s < sd) && il s)) ∧ (∀ k, k < 32 → m.1 17 k = sk k) ∧
  (∀ j s, 2 ≤ j → j ≤ 4 → s < 8 → m.1 (16 + j) s = if s < fr ∨ (wp = false ∧ sd ≤ s) then m0.1 (21 + j) s else 0)
def LCT (m0 : Wm) (HZ : Prop) : LgSt → Wm → Prop
  | (st, dg, ln, sd, ar, fr, wp, il, sk), m => lcV st dg sd ar fr wp ∧ LC m0 HZ st dg ln sd ar fr wp il sk m
def LCQ (m0 : Wm) (HZ : Prop) (c : Int32) (st dg ln sd ar fr : Nat) (wp : Bool) (il : Nat → Bool) (sk : Nat → Int32) (r : Option Value) (m' : Wm) : Prop :=
  WT m' ∧ Fx (RS [3]) m0 m' ∧ ((r = some (.int 1) ∧ ∃ L, lst c st dg ln sd ar fr wp il sk = some L ∧ LCT m0 HZ L m') ∨ (r = some (.int 0) ∧ lst c st dg ln sd ar fr wp il sk = none))
section LCR
variable {ad : Nat → Nat} {d : Nat} {m m0 : Wm} {HZ : Prop} {c : Int32} {st dg ln sd ar fr : Nat} {wp : Bool} {il : Nat → Bool} {sk : Nat → Int32}
theorem lt7 {x : Int32} (h : ¬ (0 ≤ x.toInt ∧ x.toInt ≤ 7)) : x < 0 ∨ (¬ x < 0 ∧ ¬ x ≤ 7) := by
  by_cases h0 : x < 0
  · exact Or.inl h0
  · refine Or.inr ⟨h0, fun q => h ⟨?_, ?_⟩⟩
    · exact y_nltr (n := 0) rfl h0
    · exact y_ler (n := 7) rfl q
/-- a skill's sign: into the draft, or not one -/
theorem e_takeSkill (w : WT m) (f : Fx (RS [3]) m0 m) (hs : m.1 15 1 = nI (sd + 1)) (hd : m.1 15 5 = nI dg) (hb : 4 * sd + dg < 32) : Ct ad μX4_takeSkill (d + 1) [.ref (ad 15), .int (c - 48)] m (fun r m' => WT m' ∧ Fx (RS [3]) m0 m' ∧
    ((0 ≤ (c - 48).toInt ∧ (c - 48).toInt ≤ 7 ∧ r = some (.int 1) ∧ m' = uI (uI m 17 (4 * sd + dg) (c - 48)) 15 5 (nI (dg + 1))) ∨ (¬ (0 ≤ (c - 48).toInt ∧ (c - 48).toInt ≤ 7) ∧ r = some (.int 0) ∧ m' = m))) := by
  by_cases hg : 0 ≤ (c - 48).toInt ∧ (c - 48).toInt ≤ 7
  · have z7 : (7 : Int32).toInt = 7 := rfl
    have z0 : (0 : Int32).toInt = 0 := rfl
    refine v_X4_takeSkill ⟨fun q => absurd (z_lt q) (by omega), fun _ => ⟨fun _ => ?_, fun q => absurd ((fa_le _ _).mpr (by omega)) q⟩⟩
    rw [hs, hd, nI_pred]
    refine (e_putS (i := 4 * sd + dg) St_16 (by rw [mul_l 4 4 rfl, nI_add, Nat.mul_comm sd 4]) hb).to ?_
    rintro _ m1 ⟨rfl, e⟩
    subst e
    refine ⟨rfl, ?_⟩
    have e5 : (uI m (16 + 1) (4 * sd + dg) (c - 48)).1 15 5 = nI dg := hd
    rw [e5, nI_1]
    exact ⟨(w.n rfl).n rfl, (f.i rfl).i rfl, Or.inl ⟨hg.1, hg.2, rfl, rfl⟩⟩
  · rcases lt7 hg with h | ⟨h1, h2⟩
    · exact v_X4_takeSkill ⟨fun _ => ⟨w, f, Or.inr ⟨hg, rfl, rfl⟩⟩, fun q => absurd h q⟩
    · exact v_X4_takeSkill ⟨fun q => absurd q h1, fun _ => ⟨fun q => absurd q h2, fun _ => ⟨w, f, Or.inr ⟨hg, rfl, rfl⟩⟩⟩⟩
theorem e_canEnd (V : lcV st dg sd ar fr wp) (C : LC m0 HZ st dg ln sd ar fr wp il sk m) : Ct ad μX4_canEnd d [.ref (ad 15)] m (fun r m' => m' = m ∧ r = some (.int (if lEnd st dg ar then 1 else 0))) := by
  obtain ⟨c1, c2, c3, c4, c5, c6⟩ := C
  obtain ⟨V1, V2, V3, V4, V5, V6, V7⟩ := V
  refine v_X4_canEnd ?_
  rw [c1, c5]
  have e3 : nI st = 3 ↔ st = 3 := nI_eq (a := st) (b := 3) (by omega) (by decide)
  have e2 : nI st = 2 ↔ st = 2 := nI_eq (a := st) (b := 2) (by omega) (by decide)
  refine ⟨fun q => ?_, fun q => ⟨fun q2 => ?_, fun q2 => ⟨fun q3 => ?_, fun q3 => ?_⟩⟩⟩
  · rw [if_pos (Or.inl (e3.mp q))]; exact ⟨rfl, rfl⟩
  · rw [if_neg (fun z => by rcases z with z | z; exact q (e3.mpr z); exact q2 (e2.mpr z.1))]; exact ⟨rfl, rfl⟩
  · have h2 := e2.mp q2
    rw [c2 h2] at q3
    rw [if_neg (fun z => by rcases z with z | z; exact q (e3.mpr z); exact q3 (by rw [z.2]))]; exact ⟨rfl, rfl⟩
  · have h2 := e2.mp q2
    rw [c2 h2] at q3
    have hda := V6 h2
    rw [if_pos (Or.inr ⟨h2, (nI_eq (by omega) (by omega)).mp q3⟩)]; exact ⟨rfl, rfl⟩
theorem e_takeLine (w : WT m) (f : Fx (RS [3]) m0 m) (V : lcV 0 dg sd ar fr wp) (C : LC m0 HZ 0 dg ln sd ar fr wp il sk m) : Ct ad μX4_takeLine (d + 2) [.ref (ad 15), .int c] m (LCQ m0 HZ c 0 dg ln sd ar fr wp il sk) := by
  obtain ⟨V1, V2, V3, V4, V5, V6, V7⟩ := V
  obtain ⟨c1, c2, c3, c4, c5, c6, c7, c8, c9, c10⟩ := C
  refine v_X4_takeLine ⟨fun h119 => ?_, fun h119 => ?_⟩
  · have e1 : (uI m 15 4 ((m.1 15 4) + (1 : Int32))).1 15 1 = nI sd := c4
    rw [e1]
    refine ⟨fun h8 => ?_, fun h8 => ?_⟩
    · have sd7 : sd < 8 := (l_lt 8 8 rfl (by decide) (by omega)).mp h8
      rw [nI_1 sd]
      have e2 : (uI (uI (uI m 15 4 ((m.1 15 4) + (1 : Int32))) 15 1 (nI (sd + 1))) 15 5 (0 : Int32)).1 15 1 = nI (sd + 1) := rfl
      rw [e2, nI_pred, c3, nI_1 ln]
      have wa : WT (uI (uI (uI m 15 4 (nI (ln + 1))) 15 1 (nI (sd + 1))) 15 5 (0 : Int32)) := ((w.n rfl).t rfl (by rw [nI_toInt (by omega)]; omega) (by rw [nI_toInt (by omega)]; omega)).n rfl
      have fa : Fx (RS [3]) m0 (uI (uI (uI m 15 4 (nI (ln + 1))) 15 1 (nI (sd + 1))) 15 5 (0 : Int32)) := ((f.i rfl).i rfl).i rfl
      refine (e_clear St_16 sd7).to ?_
      rintro _ m1 ⟨rfl, P⟩
      obtain ⟨w1, f1⟩ := clr16 P wa
      obtain ⟨p1, p2, p3, p4⟩ := P
      refine ⟨rfl, ?_⟩
      have wb : WT (uI m1 15 6 (2 : Int32)) := w1.n rfl
      have fb : Fx (RS [3]) m0 (uI m1 15 6 (2 : Int32)) := (fa.tr f1 (RS_sub rfl)).i rfl
      have g1 : (uI m1 15 6 (2 : Int32)).1 15 1 = nI (sd + 1) := p3 15 1 (by omega)
      have g5 : (uI m1 15 6 (2 : Int32)).1 15 5 = nI 0 := p3 15 5 (by omega)
      refine (e_takeSkill (m0 := m0) (dg := 0) (sd := sd) wb fb g1 g5 (by omega)).to ?_
      rintro r m2 ⟨w2, f2, h⟩
      rcases h with ⟨h0, h7, rfl, e⟩ | ⟨hn, rfl, e⟩
      · subst e
        refine ⟨1, rfl, bz_1, w2, f2, Or.inl ⟨rfl, _, (lst_open h119 sd7 V3).trans (lst_d ⟨h0, h7⟩ (by omega)), ⟨by decide, by omega, V3, V4, by omega, fun _ => ⟨by omega, by omega⟩, V7⟩, rfl, fun _ => rfl, p3 15 4 (by omega), g1, (p3 15 2 (by omega)).trans c5, (p3 15 7 (by omega)).trans c6, (p3 16 4 (by omega)).trans c7, fun hz s hs => ?_, fun k hk => ?_, fun j s h1 h2 hs => ?_⟩⟩
        · have e3 : (uI (uI (uI m1 15 6 (2 : Int32)) 17 (4 * sd + 0) (c - 48)) 15 5 (nI (0 + 1))).1 15 3 = m.1 15 3 := p3 15 3 (by omega)
          rw [e3, c8 hz s hs]
          by_cases hss : s = sd
          · subst hss
            simp [updB]
          · have e4 : updB il sd false s = il s := by simp [updB, hss]
            rw [e4]
            congr 1
            exact decide_eq_decide.mpr (by omega)
        · show _ = (if k = 4 * (sd + 1 - 1) + 0 then c - 48 else clr4 sk sd k)
          rw [Nat.add_sub_cancel]
          by_cases hk2 : k = 4 * sd + 0
          · rw [if_pos hk2, hk2]
            exact (u_ne (by omega)).trans u_eq
          · rw [if_neg hk2]
            refine (u_ne (by omega)).trans ((u_ne (fun q => hk2 q.2)).trans ((u_ne (by omega)).trans ((p1 k).trans ?_)))
            unfold clr4
            by_cases hk3 : 4 * sd ≤ k ∧ k < 4 * sd + 4
            · rw [if_pos hk3, if_pos hk3]
            · rw [if_neg hk3, if_neg hk3]
              exact c9 k hk
        · refine (u_ne (by omega)).trans ((u_ne (by omega)).trans ((u_ne (by omega)).trans ((p2 j s h1 h2).trans ?_)))
          by_cases hss : s = sd
          · rw [if_pos hss, if_neg (by omega)]
          · rw [if_neg hss]
            refine (u_ne (by omega)).trans ((u_ne (by omega)).trans ((u_ne (by omega)).trans ((c10 j s h1 h2 hs).trans ?_)))
            by_cases hq : s < fr ∨ (wp = false ∧ sd ≤ s)
            · rw [if_pos hq, if_pos (by rcases hq with q | q; exact Or.inl q; exact Or.inr ⟨q.1, by omega⟩)]
            · rw [if_neg hq, if_neg (fun z => hq (by rcases z with q | q; exact Or.inl q; exact Or.inr ⟨q.1, by omega⟩))]
      · exact ⟨0, rfl, bz_0, w2, f2, Or.inr ⟨rfl, (lst_open h119 sd7 V3).trans (lst_dn hn (by omega))⟩⟩
    · have sd8 : ¬ sd < 8 := fun q => h8 ((l_lt 8 8 rfl (by decide) (by omega)).mpr q)
      exact ⟨w.n rfl, f.i rfl, Or.inr ⟨rfl, lst_8 h119 sd8⟩⟩
  · subst h119
    refine ⟨(w.n rfl).n rfl, (f.i rfl).i rfl, Or.inl ⟨rfl, _, lst_w, ⟨by decide, V2, V3, V4, V5, fun q => absurd q (by decide), V7⟩, rfl, fun q => absurd q (by decide), ?_, c4, c5, c6, c7, c8, fun k hk => c9 k hk, fun j s h1 h2 hs => (u_ne (by omega)).trans ((u_ne (by omega)).trans (c10 j s h1 h2 hs))⟩⟩
    show m.1 15 4 + 1 = _
    rw [c3, nI_1]
theorem e_takeArts (w : WT m) (f : Fx (RS [3]) m0 m) (V : lcV 1 dg sd ar fr wp) (C : LC m0 HZ 1 dg ln sd ar fr wp il sk m) : Ct ad μX4_takeArts (d + 2) [.ref (ad 15), .int (c - 48)] m (LCQ m0 HZ c 1 dg ln sd ar fr wp il sk) := by
  obtain ⟨c1, c2, c3, c4, c5, c6, c7, c8, c9, c10⟩ := C
  have bad : ¬ (1 ≤ (c - 48).toInt ∧ (c - 48).toInt ≤ 4) → LCQ m0 HZ c 1 dg ln sd ar fr wp il sk (some (.int 0)) m := fun h => ⟨w, f, Or.inr ⟨rfl, lst_an h⟩⟩
  refine v_X4_takeArts ⟨fun q => bad (fun z => ?_), fun q => ⟨fun q2 => ?_, fun q2 => bad (fun z => ?_)⟩⟩
  · have := y_ltr (n := 1) rfl q; omega
  · have g1 := y_nltr (n := 1) rfl q
    have g2 := y_ler (n := 4) rfl q2
    obtain ⟨v, hv, ev⟩ := zn_of (x := c - 48) (by omega)
    have tv : (c - 48).toInt = v := by rw [ev, nI_toInt hv]
    have cv : (c - 48).toNatClampNeg = v := by rw [ev, nI_clamp hv]
    have L : ∀ (j s : Nat) (m1 : Wm), s + j = 8 → WT m1 → Fx (RS [3]) m0 m1 → (∀ k, m1.1 15 k = m.1 15 k) → m1.1 16 4 = m.1 16 4 → (∀ k, k < 4 * s → m1.1 17 k = 0) → (∀ j t, 2 ≤ j → j ≤ 4 → t < s → m1.1 (16 + j) t = 0) →
        AW ad E0 μX4_takeArts (d + 2) (LCQ m0 HZ c 1 dg ln sd ar fr wp il sk) 14 [(0, .ref (ad 15)), (1, .int (c - 48)), (2, .int (nI s))] [] m1 := by
      intro j
      induction j with
      | zero =>
        intro s m1 hs w1 f1 r1 r2 r3 r4
        obtain rfl : s = 8 := hs
        refine g_X4_takeArts_14 ⟨fun _ => ⟨((((w1.n rfl).t rfl (by decide) (by decide)).t rfl (by omega) (by omega)).n rfl).n rfl, ((((f1.i rfl).i rfl).i rfl).i rfl).i rfl, Or.inl ⟨rfl, _, lst_a ⟨g1, g2⟩, ?_⟩⟩, fun c => absurd ((le_l 8 8 rfl (by omega) (by omega)).mpr (by omega)) c⟩
        rw [cv]
        refine ⟨⟨by decide, by decide, by omega, by omega, by decide, fun q => absurd q (by decide), fun _ => rfl⟩, rfl, fun q => absurd q (by decide), (r1 4).trans c3, rfl, ev, rfl, r2.trans c7, fun _ s hs => ?_, fun k hk => r3 k (by omega), fun j s h1 h2 hs => ?_⟩
        · show bt 0 s = _
          rw [b_0]
          simp
        · rw [if_neg (by simp)]
          exact (u_ne (by omega)).trans ((u_ne (by omega)).trans ((u_ne (by omega)).trans ((u_ne (by omega)).trans ((u_ne (by omega)).trans (r4 j s h1 h2 (by omega))))))
      | succ j ih =>
        intro s m1 hs w1 f1 r1 r2 r3 r4
        refine g_X4_takeArts_14 ⟨fun c => absurd ((le_l 8 8 rfl (by omega) (by omega)).mp c) (by omega), fun _ => (e_clear St_16 (by omega)).to ?_⟩
        rintro _ m2 ⟨rfl, P⟩
        obtain ⟨w2, f2⟩ := clr16 P w1
        obtain ⟨p1, p2, p3, p4⟩ := P
        refine ⟨rfl, ?_⟩
        rw [nI_1]
        refine ih (s + 1) m2 (by omega) w2 (f1.tr f2 (RS_sub rfl)) (fun k => (p3 15 k (by omega)).trans (r1 k)) ((p3 16 4 (by omega)).trans r2) (fun k hk => ?_) (fun j t h1 h2 ht => ?_)
        · refine (p1 k).trans ?_
          by_cases hk2 : 4 * s ≤ k ∧ k < 4 * s + 4
          · rw [if_pos hk2]
          · rw [if_neg hk2]; exact r3 k (by omega)
        · refine (p2 j t h1 h2).trans ?_
          by_cases hts : t = s
          · rw [if_pos hts]
          · rw [if_neg hts]; exact r4 j t h1 h2 (by omega)
    exact L 8 0 m rfl w f (fun _ => rfl) rfl (fun k hk => absurd hk (by omega)) (fun j t _ _ ht => absurd ht (by omega))
  · have := y_nler (n := 4) rfl q2; omega
theorem e_takeIll (w : WT m) (f : Fx (RS [3]) m0 m) (V : lcV 2 ar sd ar fr wp) (C : LC m0 HZ 2 ar ln sd ar fr wp il sk m) (hc : c ≠ 59) : Ct ad μX4_takeIll d [.ref (ad 15), .int c] m (LCQ m0 HZ c 2 ar ln sd ar fr wp il sk) := by
  obtain ⟨V1, V2, V3, V4, V5, V6, V7⟩ := V
  obtain ⟨c1, c2, c3, c4, c5, c6, c7, c8, c9, c10⟩ := C
  have hsd : fr < sd := (V6 rfl).1
  refine v_X4_takeIll ⟨fun q => ⟨w, f, Or.inr ⟨rfl, lst_en (Or.inr ⟨rfl, rfl⟩) hc (fun _ => q)⟩⟩, fun q => ?_⟩
  subst q
  rw [c4]
  refine ⟨fun _ => ⟨(w.n rfl).n rfl, (f.i rfl).i rfl, Or.inl ⟨rfl, _, lst_i, ⟨by decide, V2, V3, V4, V5, fun q => absurd q (by decide), V7⟩, rfl, fun q => absurd q (by decide), c3, c4, c5, c6, c7, fun hz s hs => ?_, fun k hk => c9 k hk, fun j s h1 h2 hs => (u_ne (by omega)).trans ((u_ne (by omega)).trans (c10 j s h1 h2 hs))⟩⟩, fun q => ?_⟩
  · show bt (m.1 15 3 ||| ((1 : Int32) <<< ((nI sd - 1) &&& 31))) s = _
    have e1 : nI sd - 1 = nI (sd - 1) := by
      have : sd = (sd - 1) + 1 := by omega
      rw [this, nI_pred, Nat.add_sub_cancel]
    rw [e1, b_or, c8 hz s hs, b_shl (sd - 1) (by omega) 1 (by omega)]
    have b1 : ∀ i : Fin 32, bt 1 i.val = decide (i.val = 0) := by decide +kernel
    have b1' : bt 1 (s - (sd - 1)) = decide (s - (sd - 1) = 0) := b1 ⟨s - (sd - 1), by omega⟩
    rw [b1']
    unfold updB
    by_cases hss : s = sd - 1
    · subst hss
      simp
      omega
    · rw [if_neg hss]
      by_cases hlt : s < sd
      · have e2 : decide (sd - 1 ≤ s) = false := decide_eq_false (by omega)
        rw [e2]; simp
      · have e2 : decide (s - (sd - 1) = 0) = false := decide_eq_false (by omega)
        rw [e2]; simp
  · have := (nI_eq (a := sd) (b := 0) (by omega) (by decide)).mp q
    omega
theorem e_take (w : WT m) (f : Fx (RS [3]) m0 m) (V : lcV st dg sd ar fr wp) (C : LC m0 HZ st dg ln sd ar fr wp il sk m) : Ct ad μX4_take (d + 3) [.ref (ad 15), .int c] m (LCQ m0 HZ c st dg ln sd ar fr wp il sk) := by
  have V0 := V
  have C0 := C
  obtain ⟨V1, V2, V3, V4, V5, V6, V7⟩ := V
  obtain ⟨c1, c2, c3, c4, c5, c6, c7, c8, c9, c10⟩ := C
  have wide : ∀ r m', (∃ v : Int32, r = some (Value.int v) ∧ LCQ m0 HZ c st dg ln sd ar fr wp il sk (some (.int v)) m') ∨ LCQ m0 HZ c st dg ln sd ar fr wp il sk r m' → ∃ v : Int32, r = some (Value.int v) ∧ (bz v ∧ LCQ m0 HZ c st dg ln sd ar fr wp il sk (some (.int v)) m') := by
    intro r m' h
    have key : LCQ m0 HZ c st dg ln sd ar fr wp il sk r m' := by
      rcases h with ⟨v, rfl, h⟩ | h
      · exact h
      · exact h
    obtain ⟨k1, k2, k3⟩ := key
    rcases k3 with ⟨rfl, k4⟩ | ⟨rfl, k4⟩
    · exact ⟨1, rfl, bz_1, k1, k2, Or.inl ⟨rfl, k4⟩⟩
    · exact ⟨0, rfl, bz_0, k1, k2, Or.inr ⟨rfl, k4⟩⟩
  have g20 : ¬ (c = 59 ∧ lEnd st dg ar) → AW ad E0 μX4_take (d + 3) (LCQ m0 HZ c st dg ln sd ar fr wp il sk) 20 [(0, .ref (ad 15)), (1, .int c)] [] m := by
    intro hn
    have i0 : nI st = 0 ↔ st = 0 := nI_eq (a := st) (b := 0) (by omega) (by decide)
    have i1 : nI st = 1 ↔ st = 1 := nI_eq (a := st) (b := 1) (by omega) (by decide)
    have i2 : nI st = 2 ↔ st = 2 := nI_eq (a := st) (b := 2) (by omega) (by decide)
    refine g_X4_take_20 ?_
    rw [c1]
    refine ⟨fun q => ?_, fun q => ?_, fun q => ⟨fun qa => ?_, fun qa => ?_⟩, fun q0 q1 q2 => ?_⟩
    · obtain rfl := i0.mp q
      exact (e_takeLine w f V0 C0).to (fun r m' h => wide r m' (Or.inr h))
    · obtain rfl := i1.mp q
      exact (e_takeArts (d := d) w f V0 C0).to (fun r m' h => wide r m' (Or.inr h))
    · obtain rfl := i2.mp q
      rw [c5, c2 rfl] at qa
      have hda := V6 rfl
      have := (nI_leI (by omega) (by omega)).mp qa
      obtain rfl : dg = ar := by omega
      exact (e_takeIll w f V0 C0 (fun z => hn ⟨z, Or.inr ⟨rfl, rfl⟩⟩)).to (fun r m' h => wide r m' (Or.inr h))
    · obtain rfl := i2.mp q
      rw [c5, c2 rfl] at qa
      have hda := V6 rfl
      have hlt : dg < ar := Nat.lt_of_not_le (fun z => qa ((nI_leI (by omega) (by omega)).mpr z))
      obtain ⟨sd', rfl⟩ : ∃ sd', sd = sd' + 1 := ⟨sd - 1, by omega⟩
      refine (e_takeSkill (m0 := m0) (dg := dg) (sd := sd') w f c4 (c2 rfl) (by omega)).to ?_
      rintro r m2 ⟨w2, f2, h⟩
      rcases h with ⟨h0, h7, rfl, e⟩ | ⟨hnn, rfl, e⟩
      · subst e
        refine ⟨1, rfl, bz_1, w2, f2, Or.inl ⟨rfl, _, lst_d ⟨h0, h7⟩ hlt, ⟨by decide, V2, V3, V4, V5, fun _ => ⟨hda.1, by omega⟩, V7⟩, c1, fun _ => rfl, c3, c4, c5, c6, c7, c8, fun k hk => ?_, fun j s h1 h2 hs => (u_ne (by omega)).trans ((u_ne (by omega)).trans (c10 j s h1 h2 hs))⟩⟩
        show _ = (if k = 4 * (sd' + 1 - 1) + dg then c - 48 else sk k)
        rw [Nat.add_sub_cancel]
        by_cases hk2 : k = 4 * sd' + dg
        · rw [if_pos hk2, hk2]
          exact (u_ne (by omega)).trans u_eq
        · rw [if_neg hk2]
          exact (u_ne (by omega)).trans ((u_ne (fun q => hk2 q.2)).trans (c9 k hk))
      · exact ⟨0, rfl, bz_0, w2, f2, Or.inr ⟨rfl, lst_dn hnn hlt⟩⟩
    · have h3 : st = 3 := by
        have a0 : st ≠ 0 := fun z => q0 (i0.mpr z)
        have a1 : st ≠ 1 := fun z => q1 (i1.mpr z)
        have a2 : st ≠ 2 := fun z => q2 (i2.mpr z)
        omega
      subst h3
      exact ⟨w, f, Or.inr ⟨rfl, lst_en (Or.inl rfl) (fun z => hn ⟨z, Or.inl rfl⟩) (fun z => absurd z (by decide))⟩⟩
  refine v_X4_take (d := d + 2) ⟨fun q => g20 (fun z => q z.1), fun q => ?_⟩
  subst q
  refine (e_canEnd V0 C0).to ?_
  rintro _ m' ⟨eq, rfl⟩
  obtain rfl := eq.symm
  by_cases hE : lEnd st dg ar
  · refine ⟨1, by rw [if_pos hE], fun z => absurd z (by decide), fun _ => ⟨w.n rfl, f.i rfl, Or.inl ⟨rfl, _, lst_c hE, ⟨by decide, V2, V3, V4, V5, fun q => absurd q (by decide), V7⟩, rfl, fun q => absurd q (by decide), c3, c4, c5, c6, c7, c8, fun k hk => c9 k hk, fun j s h1 h2 hs => (u_ne (by omega)).trans (c10 j s h1 h2 hs)⟩⟩⟩
  · exact ⟨0, by rw [if_neg hE], fun _ => g20 (fun z => hE z.2), fun z => absurd rfl z⟩
end LCR
