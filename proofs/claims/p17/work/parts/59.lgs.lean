/-! THE LEAGUE'S TEXT, SIGN BY SIGN: what stands (0 a line is wanted, 1 behind w, 2 in a side, 3 a line is done), digits of the side, lines, sides, arts, how many old sides stay, whether a w came, who is ill, the skills -/
abbrev LgSt : Type := Nat × Nat × Nat × Nat × Nat × Nat × Bool × (Nat → Bool) × (Nat → Int32)
abbrev lEnd (st dg ar : Nat) : Prop := st = 3 ∨ (st = 2 ∧ dg = ar)
def updB (f : Nat → Bool) (i : Nat) (b : Bool) : Nat → Bool := fun k => if k = i then b else f k
def clr4 (sk : Nat → Int32) (s : Nat) : Nat → Int32 := fun k => if 4 * s ≤ k ∧ k < 4 * s + 4 then 0 else sk k
def lsk (c : Int32) (st dg ln sd ar fr : Nat) (wp : Bool) (il : Nat → Bool) (sk : Nat → Int32) : Option LgSt :=
  if 0 ≤ (c - 48).toInt ∧ (c - 48).toInt ≤ 7 then some (st, dg + 1, ln, sd, ar, fr, wp, il, upd sk (4 * (sd - 1) + dg) (c - 48)) else none
def lst (c : Int32) (st dg ln sd ar fr : Nat) (wp : Bool) (il : Nat → Bool) (sk : Nat → Int32) : Option LgSt :=
  if c = 59 ∧ lEnd st dg ar then some (0, dg, ln, sd, ar, fr, wp, il, sk)
  else if st = 0 then (if c = 119 then some (1, dg, ln + 1, sd, ar, fr, wp, il, sk) else if sd < 8 then lsk c 2 0 (ln + 1) (sd + 1) ar fr wp (updB il sd false) (clr4 sk sd) else none)
  else if st = 1 then (if 1 ≤ (c - 48).toInt ∧ (c - 48).toInt ≤ 4 then some (3, dg, ln, 0, (c - 48).toNatClampNeg, 0, true, (fun _ => false), (fun _ => 0)) else none)
  else if st = 2 then (if dg < ar then lsk c 2 dg ln sd ar fr wp il sk else if c = 33 then some (3, dg, ln, sd, ar, fr, wp, updB il (sd - 1) true, sk) else none)
  else none
/-- what comes of the text from the sign p on, k signs before its end: where it is wrong, or what stands at its end -/
def LO (tx : Nat → Int32) (big : Bool) : Nat → Nat → LgSt → Nat ⊕ LgSt
  | 0, p, (st, dg, ln, sd, ar, fr, wp, il, sk) => if big = false ∧ lEnd st dg ar then .inr (st, dg, ln, sd, ar, fr, wp, il, sk) else .inl p
  | k + 1, p, (st, dg, ln, sd, ar, fr, wp, il, sk) => match lst (tx p) st dg ln sd ar fr wp il sk with
    | none => .inl p
    | some L => LO tx big k (p + 1) L
section LOS
variable {tx : Nat → Int32} {big : Bool} {k p st dg ln sd ar fr : Nat} {wp : Bool} {il : Nat → Bool} {sk : Nat → Int32} {L : LgSt}
theorem LO_s (h : lst (tx p) st dg ln sd ar fr wp il sk = some L) : LO tx big (k + 1) p (st, dg, ln, sd, ar, fr, wp, il, sk) = LO tx big k (p + 1) L := by
  show (match lst (tx p) st dg ln sd ar fr wp il sk with | none => Sum.inl p | some L => LO tx big k (p + 1) L) = _
  rw [h]
theorem LO_f (h : lst (tx p) st dg ln sd ar fr wp il sk = none) : LO tx big (k + 1) p (st, dg, ln, sd, ar, fr, wp, il, sk) = .inl p := by
  show (match lst (tx p) st dg ln sd ar fr wp il sk with | none => Sum.inl p | some L => LO tx big k (p + 1) L) = _
  rw [h]
theorem LO_e (h : big = false ∧ lEnd st dg ar) : LO tx big 0 p (st, dg, ln, sd, ar, fr, wp, il, sk) = .inr (st, dg, ln, sd, ar, fr, wp, il, sk) := if_pos h
theorem LO_n (h : ¬ (big = false ∧ lEnd st dg ar)) : LO tx big 0 p (st, dg, ln, sd, ar, fr, wp, il, sk) = .inl p := if_neg h
theorem lst_ch {c b : Int32} (h : CH c b) : lst c st dg ln sd ar fr wp il sk = lst b st dg ln sd ar fr wp il sk := by
  rcases h with ⟨-, -, rfl⟩ | ⟨a1, a2, a3⟩
  · rfl
  · have r := fb_rng b
    have z48 : (48 : Int32).toInt = 48 := rfl
    have e1 : (c - 48).toInt = c.toInt - 48 := ti_sub (by omega)
    have e2 : (b - 48).toInt = b.toInt - 48 ∨ (b - 48).toInt = b.toInt - 48 + 4294967296 := by
      rw [Int32.toInt_sub, z48, Int.bmod_def]
      by_cases hb : -2147483600 ≤ b.toInt
      · left; omega
      · right; omega
    have c59 : ¬ c = 59 := fun q => by have := congrArg Int32.toInt q; have z : (59 : Int32).toInt = 59 := rfl; omega
    have c119 : ¬ c = 119 := fun q => by have := congrArg Int32.toInt q; have z : (119 : Int32).toInt = 119 := rfl; omega
    have c33 : ¬ c = 33 := fun q => by have := congrArg Int32.toInt q; have z : (33 : Int32).toInt = 33 := rfl; omega
    have b59 : ¬ b = 59 := fun q => by have := congrArg Int32.toInt q; have z : (59 : Int32).toInt = 59 := rfl; omega
    have b119 : ¬ b = 119 := fun q => by have := congrArg Int32.toInt q; have z : (119 : Int32).toInt = 119 := rfl; omega
    have b33 : ¬ b = 33 := fun q => by have := congrArg Int32.toInt q; have z : (33 : Int32).toInt = 33 := rfl; omega
    have c7 : ¬ (0 ≤ (c - 48).toInt ∧ (c - 48).toInt ≤ 7) := by omega
    have b7 : ¬ (0 ≤ (b - 48).toInt ∧ (b - 48).toInt ≤ 7) := by omega
    have c4 : ¬ (1 ≤ (c - 48).toInt ∧ (c - 48).toInt ≤ 4) := by omega
    have b4 : ¬ (1 ≤ (b - 48).toInt ∧ (b - 48).toInt ≤ 4) := by omega
    unfold lst lsk
    simp only [c59, c119, c33, b59, b119, b33, c7, b7, c4, b4, false_and, if_false]
theorem LO_ch {tb : Nat → Int32} : ∀ {k p : Nat} {L : LgSt}, (∀ j, j < p + k → CH (tx j) (tb j)) → LO tx big k p L = LO tb big k p L := by
  intro k
  induction k with
  | zero => intro p L _; obtain ⟨st, dg, ln, sd, ar, fr, wp, il, sk⟩ := L; rfl
  | succ k ih =>
    intro p L h
    obtain ⟨st, dg, ln, sd, ar, fr, wp, il, sk⟩ := L
    have e := lst_ch (st := st) (dg := dg) (ln := ln) (sd := sd) (ar := ar) (fr := fr) (wp := wp) (il := il) (sk := sk) (h p (by omega))
    cases hl : lst (tb p) st dg ln sd ar fr wp il sk with
    | none => rw [LO_f hl, LO_f (e.trans hl)]
    | some L' => rw [LO_s hl, LO_s (e.trans hl)]; exact ih (fun j hj => h j (by omega))
theorem lst_open {c : Int32} (hc : c ≠ 119) (h8 : sd < 8) (ha : 1 ≤ ar) : lst c 0 dg ln sd ar fr wp il sk = lst c 2 0 (ln + 1) (sd + 1) ar fr wp (updB il sd false) (clr4 sk sd) := by
  unfold lst
  rw [if_neg (by omega), if_pos rfl, if_neg hc, if_pos h8, if_neg (by omega), if_neg (by decide), if_neg (by decide), if_pos rfl, if_pos (by omega)]
/-- a side is begun ahead of its first digit -/
theorem LO_open (hc : k ≠ 0 → tx p ≠ 119) (h8 : sd < 8) (ha : 1 ≤ ar) : LO tx big k p (0, dg, ln, sd, ar, fr, wp, il, sk) = LO tx big k p (2, 0, ln + 1, sd + 1, ar, fr, wp, updB il sd false, clr4 sk sd) := by
  cases k with
  | zero => rw [LO_n (by omega), LO_n (by omega)]
  | succ k =>
    have e := lst_open (dg := dg) (ln := ln) (fr := fr) (wp := wp) (il := il) (sk := sk) (hc (Nat.succ_ne_zero k)) h8 ha
    cases hl : lst (tx p) 2 0 (ln + 1) (sd + 1) ar fr wp (updB il sd false) (clr4 sk sd) with
    | none => rw [LO_f hl, LO_f (e.trans hl)]
    | some L' => rw [LO_s hl, LO_s (e.trans hl)]
theorem lst_w : lst 119 0 dg ln sd ar fr wp il sk = some (1, dg, ln + 1, sd, ar, fr, wp, il, sk) := by
  unfold lst
  rw [if_neg (fun q => absurd q.1 (by decide)), if_pos rfl, if_pos rfl]
theorem lst_a {c : Int32} (h : 1 ≤ (c - 48).toInt ∧ (c - 48).toInt ≤ 4) : lst c 1 dg ln sd ar fr wp il sk = some (3, dg, ln, 0, (c - 48).toNatClampNeg, 0, true, (fun _ => false), (fun _ => 0)) := by
  unfold lst
  rw [if_neg (by omega), if_neg (by decide), if_pos rfl, if_pos h]
theorem lst_an {c : Int32} (h : ¬ (1 ≤ (c - 48).toInt ∧ (c - 48).toInt ≤ 4)) : lst c 1 dg ln sd ar fr wp il sk = none := by
  unfold lst
  rw [if_neg (by omega), if_neg (by decide), if_pos rfl, if_neg h]
theorem lst_8 {c : Int32} (hc : c ≠ 119) (h8 : ¬ sd < 8) : lst c 0 dg ln sd ar fr wp il sk = none := by
  unfold lst
  rw [if_neg (by omega), if_pos rfl, if_neg hc, if_neg h8]
theorem lst_d {c : Int32} (h : 0 ≤ (c - 48).toInt ∧ (c - 48).toInt ≤ 7) (hd : dg < ar) : lst c 2 dg ln sd ar fr wp il sk = some (2, dg + 1, ln, sd, ar, fr, wp, il, upd sk (4 * (sd - 1) + dg) (c - 48)) := by
  unfold lst lsk
  rw [if_neg (by omega), if_neg (by decide), if_neg (by decide), if_pos rfl, if_pos hd, if_pos h]
theorem lst_dn {c : Int32} (h : ¬ (0 ≤ (c - 48).toInt ∧ (c - 48).toInt ≤ 7)) (hd : dg < ar) : lst c 2 dg ln sd ar fr wp il sk = none := by
  unfold lst lsk
  rw [if_neg (by omega), if_neg (by decide), if_neg (by decide), if_pos rfl, if_pos hd, if_neg h]
theorem lst_i : lst 33 2 ar ln sd ar fr wp il sk = some (3, ar, ln, sd, ar, fr, wp, updB il (sd - 1) true, sk) := by
  unfold lst
  rw [if_neg (fun q => absurd q.1 (by decide)), if_neg (by decide), if_neg (by decide), if_pos rfl, if_neg (by omega), if_pos rfl]
theorem lst_c (h : lEnd st dg ar) : lst 59 st dg ln sd ar fr wp il sk = some (0, dg, ln, sd, ar, fr, wp, il, sk) := by
  unfold lst
  rw [if_pos ⟨rfl, h⟩]
theorem lst_en {c : Int32} (h : lEnd st dg ar) (h1 : c ≠ 59) (h2 : st = 2 → c ≠ 33) : lst c st dg ln sd ar fr wp il sk = none := by
  unfold lst
  rw [if_neg (fun q => h1 q.1)]
  rcases h with rfl | ⟨rfl, rfl⟩
  · rw [if_neg (by decide), if_neg (by decide), if_neg (by decide)]
  · rw [if_neg (by decide), if_neg (by decide), if_pos rfl, if_neg (by omega), if_neg (h2 rfl)]
end LOS
/-! the model reads so -/
section LHM
variable {ad : Nat → Nat} {d : Nat} {m : Wm} {O : Nat ⊕ LgSt}
def lgE (m : Wm) (ln sd ar fr : Nat) (wp : Bool) (il : Nat → Bool) (sk : Nat → Int32) (m' : Wm) : Prop :=
  m'.1 187 1 = nI sd ∧ m'.1 187 0 = nI ar ∧ m'.1 187 30 = 0 ∧ m'.1 187 53 = m.1 187 53 + 1 ∧
  (if wp = true then m'.1 187 10 = 0 ∧ m'.1 187 11 = 0 ∧ m'.1 187 12 = 0 ∧ m'.1 187 52 = 0 else m'.1 187 10 = m.1 187 10 ∧ m'.1 187 11 = m.1 187 11 ∧ m'.1 187 12 = m.1 187 12 ∧ m'.1 187 52 = m.1 187 52) ∧
  (∀ k, 4 * fr ≤ k → k < 4 * sd → m'.1 188 k = sk k) ∧ (∀ k, k < 4 * fr → m'.1 188 k = m.1 188 k) ∧
  (∀ t, fr ≤ t → t < sd → m'.1 190 t = 0 ∧ m'.1 191 t = 0 ∧ m'.1 192 t = 0 ∧ m'.1 189 t = if il t = true then 1 else 0) ∧
  (∀ t, t < fr → m'.1 190 t = m.1 190 t ∧ m'.1 191 t = m.1 191 t ∧ m'.1 192 t = m.1 192 t ∧ m'.1 189 t = m.1 189 t)
def lhQ (m : Wm) (O : Nat ⊕ LgSt) (r : Option Value) (m' : Wm) : Prop := lgQ m r m' ∧ (∀ q, O = .inl q → r = some (.int (-1 - nI q)) ∧ Fx (RS [20, 21, 22, 27]) m m') ∧
  ∀ st dg ln sd ar fr wp il sk, O = .inr (st, dg, ln, sd, ar, fr, wp, il, sk) → r = some (.int (nI ln)) ∧ lgE m ln sd ar fr wp il sk m'
def lhN (fr sd : Nat) (il : Nat → Bool) (sk : Nat → Int32) (m3 : Wm) : Prop := (∀ k, 4 * fr ≤ k → k < 4 * sd → m3.1 197 k = sk k) ∧ (∀ s, fr ≤ s → s < sd → m3.1 198 s = if il s = true then 1 else 0)
/-- while it is taken over: the skills below b, the sides below s are there -/
def lhC (m : Wm) (n ar fr sd s b : Nat) (wp : Bool) (il : Nat → Bool) (sk : Nat → Int32) (m3 : Wm) : Prop :=
  lhN fr sd il sk m3 ∧ m3.1 187 0 = nI ar ∧ m3.1 187 1 = nI n ∧ m3.1 187 53 = m.1 187 53 ∧
  (if wp = true then m3.1 187 10 = 0 ∧ m3.1 187 11 = 0 ∧ m3.1 187 12 = 0 ∧ m3.1 187 52 = 0 else m3.1 187 10 = m.1 187 10 ∧ m3.1 187 11 = m.1 187 11 ∧ m3.1 187 12 = m.1 187 12 ∧ m3.1 187 52 = m.1 187 52) ∧
  (∀ k, 4 * fr ≤ k → k < b → m3.1 188 k = sk k) ∧ (∀ k, k < 4 * fr → m3.1 188 k = m.1 188 k) ∧
  (∀ t, fr ≤ t → t < s → m3.1 190 t = 0 ∧ m3.1 191 t = 0 ∧ m3.1 192 t = 0 ∧ m3.1 189 t = if il t = true then 1 else 0) ∧
  (∀ t, t < fr → m3.1 190 t = m.1 190 t ∧ m3.1 191 t = m.1 191 t ∧ m3.1 192 t = m.1 192 t ∧ m3.1 189 t = m.1 189 t)
theorem lh_362 {n st dg ln ar fr sd : Nat} {wp : Bool} {il : Nat → Bool} {sk : Nat → Int32} {m3 : Wm} {v : Int32} (hO : O = .inr (st, dg, ln, sd, ar, fr, wp, il, sk)) (h8 : sd ≤ 8) (I : lgI m m3) (C : lhC m n ar fr sd sd (4 * sd) wp il sk m3) (hv : v = m3.1 187 53 + 1) :
    AW ad E0 μX12_league (d + 1) (lhQ m O) 362 [(0, .ref (ad 187)), (3, .int (nI sd)), (5, .int (nI ln))] [] (uI m3 187 53 v) := by
  have e1 : (nI sd).toInt = sd := nI_toInt (by omega)
  have I' : lgI m (uI m3 187 53 v) := ⟨I.1.n rfl, I.2.1.i rfl, I.2.2.1, I.2.2.2⟩
  have C' : m3.1 187 53 = m.1 187 53 := C.2.2.2.1
  obtain ⟨w, f, e, g⟩ := I'
  obtain ⟨c1, c2, c3, c4, c5, c6, c7, c8, c9⟩ := C
  refine g_X12_league_362 ⟨⟨(w.t rfl (by omega) (by omega)).t rfl (by decide) (by decide), (f.i rfl).i rfl, ⟨_, rfl⟩, e, g⟩, fun q hq => ?_, fun st' dg' ln' sd' ar' fr' wp' il' sk' hq => ?_⟩
  · rw [hO] at hq; cases hq
  · rw [hO] at hq
    cases hq
    refine ⟨rfl, rfl, c2, rfl, ?_, c5, c6, c7, c8, c9⟩
    show v = _
    rw [hv, C']
theorem lhN.at {fr sd : Nat} {il : Nat → Bool} {sk : Nat → Int32} {m3 m4 : Wm} (h : lhN fr sd il sk m3) (h7 : m4.1 197 = m3.1 197) (h8 : m4.1 198 = m3.1 198) : lhN fr sd il sk m4 := by
  unfold lhN
  rw [h7, h8]
  exact h
theorem lh_copy {n st dg ln ar fr sd : Nat} {wp : Bool} {il : Nat → Bool} {sk : Nat → Int32} (hO : O = .inr (st, dg, ln, sd, ar, fr, wp, il, sk)) (h8 : sd ≤ 8) (hl : wp = true ∨ (fr = n ∧ fr < sd)) (hfr : fr ≤ sd) : ∀ (j s : Nat) (m3 : Wm), s + j = sd → fr ≤ s → lgI m m3 → lhC m n ar fr sd s (4 * s) wp il sk m3 →
    AW ad E0 μX12_league (d + 1) (lhQ m O) 250 [(0, .ref (ad 187)), (3, .int (nI sd)), (4, .int (if wp = true then 1 else 0)), (5, .int (nI ln)), (7, .int (nI s))] [] m3 := by
  intro j
  induction j with
  | zero =>
    intro s m3 hs hfs I C
    obtain rfl : s = sd := hs
    refine g_X12_league_250 ⟨fun _ => ⟨fun _ => lh_362 hO h8 I C rfl, fun c => ?_⟩, fun c => absurd ((nI_leI (by omega) (by omega)).mpr (by omega)) c⟩
    rcases hl with hw | ⟨h1, h2⟩
    · rw [if_pos hw] at c; exact absurd c (by decide)
    · refine ⟨fun q => ?_, fun _ => lh_362 hO h8 I C rfl⟩
      rw [C.2.2.1] at q
      have := (nI_leI (by omega) (by omega)).mp q
      omega
  | succ j ih =>
    intro s m3 hs hfs I C
    have hs8 : s < 8 := by omega
    refine g_X12_league_250 ⟨fun c => absurd ((nI_leI (by omega) (by omega)).mp c) (by omega), fun _ => ?_⟩
    have L : ∀ (i a : Nat) (m4 : Wm), a + i = 4 → lgI m m4 → lhC m n ar fr sd s (4 * s + a) wp il sk m4 → AW ad E0 μX12_league (d + 1) (lhQ m O) 259 [(0, .ref (ad 187)), (3, .int (nI sd)), (4, .int (if wp = true then 1 else 0)), (5, .int (nI ln)), (7, .int (nI s)), (8, .int (nI a))] [] m4 := by
      intro i
      induction i with
      | zero =>
        intro a m4 ha I4 C4
        obtain rfl : a = 4 := ha
        obtain ⟨w, f, e, g⟩ := I4
        obtain ⟨c1, c2, c3, c4, c5, c6, c7, c8, c9⟩ := C4
        have v := nat_in hs8 (show (8 : Nat) < 2147483648 by decide)
        refine g_X12_league_259 ⟨fun _ => ⟨v, v, v, v, v, ?_⟩, fun c => absurd ((le_l 4 4 rfl (by omega) (by omega)).mpr (by omega)) c⟩
        rw [nI_1, nI_clamp (by omega)]
        have e198 : vp_nar .boolean (m4.1 198 s) = if il s = true then 1 else 0 := by
          rw [c1.2 s hfs (by omega)]
          by_cases hi : il s = true
          · rw [if_pos hi]; rfl
          · rw [if_neg hi]; rfl
        refine ih (s + 1) _ (by omega) (by omega) ⟨(((w.n rfl).n rfl).n rfl).n rfl, (((f.i rfl).i rfl).i rfl).i rfl, e, g⟩ ⟨c1.at ?_ ?_, c2, c3, c4, c5, c6, c7, fun t h1 h2 => ?_, fun t ht => ?_⟩
        · exact (((uI_cell (by decide)).trans (uI_cell (by decide))).trans (uI_cell (by decide))).trans (uI_cell (by decide))
        · exact (((uI_cell (by decide)).trans (uI_cell (by decide))).trans (uI_cell (by decide))).trans (uI_cell (by decide))
        · by_cases hts : t = s
          · subst hts
            exact ⟨(u_ne (by omega)).trans ((u_ne (by omega)).trans u_eq), (u_ne (by omega)).trans u_eq, u_eq, (u_ne (by omega)).trans ((u_ne (by omega)).trans ((u_ne (by omega)).trans (u_eq.trans e198)))⟩
          · obtain ⟨d1, d2, d3, d4⟩ := c8 t h1 (by omega)
            have hn : ∀ (M : Wm) (a b : Nat) (x : Int32), (uI M a s x).1 b t = M.1 b t := fun M a b x => u_ne (fun q => hts q.2)
            refine ⟨?_, ?_, ?_, ?_⟩
            · rw [hn, hn, hn, hn]; exact d1
            · rw [hn, hn, hn, hn]; exact d2
            · rw [hn, hn, hn, hn]; exact d3
            · rw [hn, hn, hn, hn]; exact d4
        · obtain ⟨d1, d2, d3, d4⟩ := c9 t ht
          have hts : ¬ t = s := by omega
          have hn : ∀ (M : Wm) (a b : Nat) (x : Int32), (uI M a s x).1 b t = M.1 b t := fun M a b x => u_ne (fun q => hts q.2)
          refine ⟨?_, ?_, ?_, ?_⟩
          · rw [hn, hn, hn, hn]; exact d1
          · rw [hn, hn, hn, hn]; exact d2
          · rw [hn, hn, hn, hn]; exact d3
          · rw [hn, hn, hn, hn]; exact d4
      | succ i ih2 =>
        intro a m4 ha I4 C4
        obtain ⟨w, f, e, g⟩ := I4
        obtain ⟨c1, c2, c3, c4, c5, c6, c7, c8, c9⟩ := C4
        have l4 : (4 : Int32) * nI s + nI a = nI (4 * s + a) := by rw [l_mul 4 4 rfl, nI_add]
        refine g_X12_league_259 ⟨fun c => absurd ((le_l 4 4 rfl (by omega) (by omega)).mp c) (by omega), fun _ => ?_⟩
        rw [l4, nI_1, nI_clamp (by omega)]
        refine ⟨nat_in (by omega) (by decide), nat_in (by omega) (by decide), ih2 (a + 1) _ (by omega) ⟨w.n rfl, f.i rfl, e, g⟩ ⟨c1.at (uI_cell (by decide)) (uI_cell (by decide)), c2, c3, c4, c5, fun k h1 h2 => ?_, fun k hk => ?_, c8, c9⟩⟩
        · by_cases hk : k = 4 * s + a
          · subst hk
            exact u_eq.trans (c1.1 _ (by omega) (by omega))
          · exact (u_ne (fun q => hk q.2)).trans (c6 k h1 (by omega))
        · exact (u_ne (by omega)).trans (c7 k hk)
    exact L 4 0 m3 (by decide) I C
theorem lh_bad {q p : Nat} {w x1 x2 x3 x4 x5 : Int32} {ty e : Nat} {tx : Nat → Int32} {m4 : Wm} (hO : O = .inl q) (hq : q < 100) (h4 : PS 195 ty 76 e tx p w m4) (hw : w = nI q) (I : lgI m m4) (F : Fx (RS [20, 21, 22, 27]) m m4) : AW ad E0 μX12_league (d + 1) (lhQ m O) 203 [(0, .ref (ad 187)), (1, .int x1), (2, .int x2), (3, .int x3), (4, .int x4), (5, .int x5)] [] m4 := by
  have hw1 : ¬ w = -1 := fun z => m1_ne q (by omega) (z.symm.trans hw)
  have e22 : m4.1 187 22 = w := h4.2.2.2.2.1
  obtain ⟨w0, f0, e0, g0⟩ := I
  refine g_X12_league_203 ((fine_ok h4).to ?_)
  rintro _ m' ⟨eq, rfl⟩
  obtain rfl := eq.symm
  refine ⟨0, by rw [if_neg hw1], fun c => absurd rfl c, fun _ => ⟨⟨w0, f0, ⟨_, rfl⟩, e0, g0⟩, fun q' hq' => ?_, fun _ _ _ _ _ _ _ _ _ hq' => ?_⟩⟩
  · rw [hO] at hq'
    cases hq'
    exact ⟨by rw [e22, hw], F⟩
  · rw [hO] at hq'; cases hq'
section LHW
variable {ty e : Nat} {tx : Nat → Int32}
theorem flt_d {x w : Int32} {p : Nat} (h : ¬ w = -1) : (fltF x (p, w)).2 = w := by rw [flt_keep h]
theorem lh_dead184 (A : PA 195 80 ty 76 e) {q p : Nat} {w x1 x2 x3 x4 x5 : Int32} {m4 : Wm} (hO : O = .inl q) (hq : q < 100) (h4 : PS 195 ty 76 e tx p w m4) (hw : w = nI q) (I : lgI m m4) (F : Fx (RS [20, 21, 22, 27]) m m4) : AW ad E0 μX12_league (d + 1 + 1) (lhQ m O) 184 [(0, .ref (ad 187)), (1, .int x1), (2, .int x2), (3, .int x3), (4, .int x4), (5, .int x5)] [] m4 := by
  have hw1 : ¬ w = -1 := fun z => m1_ne q (by omega) (z.symm.trans hw)
  refine g_X12_league_184 ⟨fun _ => lh_bad hO hq h4 hw I F, fun _ => (fault_ok A h4).to ?_⟩
  rintro _ m5 ⟨rfl, h5, f5⟩
  rw [flt_d hw1] at h5
  exact ⟨rfl, lh_bad hO hq h5 hw (I.fx f5) (F.tr f5 (RS_sub rfl))⟩
theorem lh_dead57 (A : PA 195 80 ty 76 e) {q p : Nat} {w x1 x2 x3 x4 x5 x6 : Int32} {m4 : Wm} (hO : O = .inl q) (hq : q < 100) (h4 : PS 195 ty 76 e tx p w m4) (hw : w = nI q) (I : lgI m m4) (F : Fx (RS [20, 21, 22, 27]) m m4) : AW ad E0 μX12_league (d + 1 + 1) (lhQ m O) 57 [(0, .ref (ad 187)), (1, .int x1), (2, .int x2), (3, .int x3), (4, .int x4), (5, .int x5), (6, .int x6)] [] m4 := by
  have hw1 : ¬ w = -1 := fun z => m1_ne q (by omega) (z.symm.trans hw)
  refine g_X12_league_57 ⟨fun _ => lh_dead184 A hO hq h4 hw I F, fun _ => (fine_ok h4).to ?_⟩
  rintro _ m' ⟨eq, rfl⟩
  obtain rfl := eq.symm
  exact ⟨0, by rw [if_neg hw1], fun _ => lh_dead184 A hO hq h4 hw I F, fun c => absurd rfl c⟩
theorem pass_d {c : Int32} {p : Nat} {w : Int32} (h : ¬ w = -1) : ¬ passF tx e c (p, w) = true := fun q => h (of_decide_eq_true q).1
/-- behind a line, after a fault: ; is asked for, and not there -/
theorem lh_deadP (A : PA 195 80 ty 76 e) {q p : Nat} {w x1 x2 x3 x4 x5 : Int32} {m4 : Wm} (hO : O = .inl q) (hq : q < 100) (h4 : PS 195 ty 76 e tx p w m4) (hw : w = nI q) (I : lgI m m4) (F : Fx (RS [20, 21, 22, 27]) m m4) :
    Ct ad μX12_passes (d + 4) [.ref (ad 187), .int 59] m4 (fun r m10 => ∃ v11 : Int32, r = some (.int v11) ∧ AW ad E0 μX12_league (d + 4 + 1) (lhQ m O) 57 [(0, .ref (ad 187)), (1, .int x1), (2, .int x2), (3, .int x3), (4, .int x4), (5, .int x5), (6, .int v11)] [] m10) := by
  have hw1 : ¬ w = -1 := fun z => m1_ne q (by omega) (z.symm.trans hw)
  refine (passes_ok A h4 (by decide)).to ?_
  rintro _ m5 ⟨rfl, h5, f5⟩
  rw [if_neg (pass_d hw1)] at h5 ⊢
  exact ⟨_, rfl, lh_dead57 (d := d + 3) A hO hq h5 hw (I.fx f5) (F.tr f5 (RS_sub rfl))⟩
theorem lh_dead115 (A : PA 195 80 ty 76 e) {q p : Nat} {w x1 x2 x4 x5 : Int32} {sd : Nat} (hO : O = .inl q) (hq : q < 100) (hs : sd < 8) (hw : w = nI q) : ∀ (j a : Nat) (m4 : Wm), a + j = 4 → PS 195 ty 76 e tx p w m4 → lgI m m4 → Fx (RS [20, 21, 22, 27]) m m4 →
    AW ad E0 μX12_league (d + 4 + 1) (lhQ m O) 115 [(0, .ref (ad 187)), (1, .int x1), (2, .int x2), (3, .int (nI sd)), (4, .int x4), (5, .int x5), (7, .int (nI a))] [] m4 := by
  have hw1 : ¬ w = -1 := fun z => m1_ne q (by omega) (z.symm.trans hw)
  intro j
  induction j with
  | zero =>
    intro a m4 ha h4 I F
    refine g_X12_league_115 ⟨fun _ => (passes_ok A h4 (by decide)).to ?_, fun c => absurd ((le_l 4 4 rfl (by omega) (by omega)).mpr (by omega)) c⟩
    rintro _ m6 ⟨rfl, h6, f6⟩
    rw [if_neg (pass_d hw1)] at h6 ⊢
    obtain ⟨i1, i2, i3, i4⟩ := I.fx f6
    exact ⟨_, rfl, nat_in (by omega) (by decide), lh_deadP A hO hq (h6.u (by decide) (by decide)) hw ⟨i1.n rfl, i2.i rfl, i3, i4⟩ ((F.tr f6 (RS_sub rfl)).i rfl)⟩
  | succ j ih =>
    intro a m4 ha h4 I F
    have l4 : (4 : Int32) * nI sd + nI a = nI (4 * sd + a) := by rw [l_mul 4 4 rfl, nI_add]
    refine g_X12_league_115 ⟨fun c => absurd ((le_l 4 4 rfl (by omega) (by omega)).mp c) (by omega), fun _ => ?_⟩
    rw [l4, nI_1]
    refine ⟨fun _ => ⟨nat_in (by omega) (by decide), ?_⟩, fun _ => (digit_ok A h4 (lo := 0) (hi := 7) (by decide)).to ?_⟩
    · obtain ⟨i1, i2, i3, i4⟩ := I
      exact ih (a + 1) _ (by omega) (h4.u (by decide) (by decide)) ⟨i1.n rfl, i2.i rfl, i3, i4⟩ (F.i rfl)
    · rintro _ m6 ⟨rfl, h6, f6⟩
      have e1 : digF tx e 0 7 (p, w) = (0, (p, w)) := by unfold digF; rw [if_neg hw1]
      rw [e1] at h6 ⊢
      obtain ⟨i1, i2, i3, i4⟩ := I.fx f6
      exact ⟨_, rfl, nat_in (by omega) (by decide), ih (a + 1) _ (by omega) (h6.u (by decide) (by decide)) ⟨i1.n rfl, i2.i rfl, i3, i4⟩ ((F.tr f6 (RS_sub rfl)).i rfl)⟩
/-- what holds of the numbers read so far: sd sides (fr of them old), ar arts -/
def lhV (n a0 sd ar fr : Nat) (wp : Bool) : Prop := fr ≤ sd ∧ sd ≤ 8 ∧ 1 ≤ ar ∧ ar ≤ 4 ∧ (wp = true ∨ (fr = n ∧ ar = a0))
theorem lh_end (A : PA 195 80 ty 76 e) {n a0 st dg ln sd ar fr p : Nat} {wp : Bool} {il : Nat → Bool} {sk : Nat → Int32} {x4 : Int32} {m3 : Wm} (h : PS 195 ty 76 e tx p (-1) m3) (hO : LO tx (decide (76 < ty)) (e - p) p (st, dg, ln, sd, ar, fr, wp, il, sk) = O) (hE : lEnd st dg ar) (h59 : p < e → tx p ≠ 59) (h33 : st = 2 → p < e → tx p ≠ 33)
    (V : lhV n a0 sd ar fr wp) (hl : wp = true ∨ fr < sd) (hx : x4 = if wp = true then 1 else 0) (I : lgI m m3) (N : lhN fr sd il sk m3) (F : Fx (RS [20, 21, 22, 27]) m m3) (hn : m.1 187 1 = nI n) (ha0 : m.1 187 0 = nI a0) :
    AW ad E0 μX12_league (d + 1 + 1) (lhQ m O) 184 [(0, .ref (ad 187)), (1, .int (nI ar)), (2, .int (nI fr)), (3, .int (nI sd)), (4, .int x4), (5, .int (nI ln))] [] m3 := by
  have hpe : p ≤ e := h.2.2.2.2.2.1
  obtain ⟨A1, A2, A3, A4, A5, A6, A7, A8, A9⟩ := A
  have A : PA 195 80 ty 76 e := ⟨A1, A2, A3, A4, A5, A6, A7, A8, A9⟩
  obtain ⟨V1, V2, V3, V4, V5⟩ := V
  subst hx
  refine g_X12_league_184 ⟨fun c => ?_, fun c => ?_⟩
  · rw [h.2.1, h.2.2.2.1] at c
    have c' := (nI_leI (a := ty) (b := p) (by omega) (by omega)).mp c
    have hep : e - p = 0 := by omega
    rw [hep, LO_e ⟨decide_eq_false (by omega), hE⟩] at hO
    have hO' := hO.symm
    refine g_X12_league_203 ((fine_ok h).to ?_)
    rintro _ m' ⟨eq, rfl⟩
    obtain rfl := eq.symm
    refine ⟨1, rfl, fun _ => ⟨fun c4 => ?_, fun c4 => ?_⟩, fun q => absurd q (by decide)⟩
    · have hwp : wp = false := by
        cases wp with
        | false => rfl
        | true => exact absurd c4 (by decide)
      subst hwp
      have hfr : fr = n ∧ ar = a0 := by rcases V5 with q | q; exact absurd q (by decide); exact q
      have hlt : fr < sd := by rcases hl with q | q; exact absurd q (by decide); exact q
      refine lh_copy hO' V2 (Or.inr ⟨hfr.1, hlt⟩) V1 (sd - fr) fr m3 (by omega) (Nat.le_refl _) I ⟨N, ?_, ?_, F.at (by decide), ⟨F.at (by decide), F.at (by decide), F.at (by decide), F.at (by decide)⟩, fun k h1 h2 => absurd h2 (by omega), fun k hk => F.at (by show ¬ (([20, 21, 22, 27] : List Nat).elem 24 = true); decide), fun t h1 h2 => absurd h2 (by omega), fun t ht => ⟨F.at (by show ¬ (([20, 21, 22, 27] : List Nat).elem 24 = true); decide), F.at (by show ¬ (([20, 21, 22, 27] : List Nat).elem 24 = true); decide), F.at (by show ¬ (([20, 21, 22, 27] : List Nat).elem 24 = true); decide), F.at (by show ¬ (([20, 21, 22, 27] : List Nat).elem (rg 189 t) = true); exact (show ¬ (([20, 21, 22, 27] : List Nat).elem (rg 189 0) = true) by decide))⟩⟩
      · exact (F.at (a := 187) (k := 0) (by decide)).trans (by rw [ha0, hfr.2])
      · exact (F.at (a := 187) (k := 1) (by decide)).trans hn
    · have hwp : wp = true := by
        cases wp with
        | true => rfl
        | false => exact absurd rfl c4
      subst hwp
      obtain ⟨i1, i2, i3, i4⟩ := I
      have tar : (nI ar).toInt = ar := nI_toInt (by omega)
      refine lh_copy (n := n) hO' V2 (Or.inl rfl) V1 (sd - fr) fr _ (by omega) (Nat.le_refl _) ⟨((((i1.t rfl (by omega) (by omega)).t rfl (by decide) (by decide)).t rfl (by decide) (by decide)).n rfl).t rfl (by decide) (by decide), ((((i2.i rfl).i rfl).i rfl).i rfl).i rfl, i3, Or.inr rfl⟩ ⟨N, rfl, ?_, F.at (by decide), ⟨rfl, rfl, rfl, rfl⟩, fun k h1 h2 => absurd h2 (by omega), fun k hk => F.at (by show ¬ (([20, 21, 22, 27] : List Nat).elem 24 = true); decide), fun t h1 h2 => absurd h2 (by omega), fun t ht => ⟨F.at (by show ¬ (([20, 21, 22, 27] : List Nat).elem 24 = true); decide), F.at (by show ¬ (([20, 21, 22, 27] : List Nat).elem 24 = true); decide), F.at (by show ¬ (([20, 21, 22, 27] : List Nat).elem 24 = true); decide), F.at (by show ¬ (([20, 21, 22, 27] : List Nat).elem (rg 189 t) = true); exact (show ¬ (([20, 21, 22, 27] : List Nat).elem (rg 189 0) = true) by decide))⟩⟩
      exact (F.at (a := 187) (k := 1) (by decide)).trans hn
  · rw [h.2.1, h.2.2.2.1] at c
    have c' : p < ty := by
      refine Nat.lt_of_not_le (fun q => c ((nI_leI (a := ty) (b := p) (by omega) (by omega)).mpr q))
    have hO2 : O = .inl p := by
      by_cases hp : p < e
      · have hk : e - p = (e - p - 1) + 1 := by omega
        rw [← hO, hk, LO_f (lst_en hE (h59 hp) (fun q => h33 q hp))]
      · have hep : e - p = 0 := by omega
        have hb : decide (76 < ty) = true := decide_eq_true (by omega)
        rw [← hO, hep, LO_n (by rw [hb]; exact fun q => absurd q.1 (by decide))]
    rw [h.2.2.2.1]
    refine (fault_ok A h).to ?_
    rintro _ m5 ⟨rfl, h5, f5⟩
    refine ⟨rfl, lh_bad hO2 (by omega) h5 ?_ (I.fx f5) (F.tr f5 (RS_sub rfl))⟩
    unfold fltF
    rw [if_pos rfl]
end LHW
end LHM
