/-! A READER THAT GOES SIGN BY SIGN -/
def MO {σ : Type} (stp : Int32 → σ → Option σ) (ok : σ → Bool) (tx : Nat → Int32) (big : Bool) : Nat → Nat → σ → Nat ⊕ σ
  | 0, p, S => if big = false ∧ ok S = true then .inr S else .inl p
  | k + 1, p, S => match stp (tx p) S with
    | none => .inl p
    | some S' => MO stp ok tx big k (p + 1) S'
section MOS
variable {σ : Type} {stp : Int32 → σ → Option σ} {ok : σ → Bool} {tx : Nat → Int32} {big : Bool} {k p e : Nat} {S S' : σ}
theorem MO_s (h : stp (tx p) S = some S') : MO stp ok tx big (k + 1) p S = MO stp ok tx big k (p + 1) S' := by
  show (match stp (tx p) S with | none => Sum.inl p | some S' => MO stp ok tx big k (p + 1) S') = _
  rw [h]
theorem MO_f (h : stp (tx p) S = none) : MO stp ok tx big (k + 1) p S = .inl p := by
  show (match stp (tx p) S with | none => Sum.inl p | some S' => MO stp ok tx big k (p + 1) S') = _
  rw [h]
theorem MO_e (h : big = false ∧ ok S = true) : MO stp ok tx big 0 p S = .inr S := if_pos h
theorem MO_n (h : ¬ (big = false ∧ ok S = true)) : MO stp ok tx big 0 p S = .inl p := if_neg h
theorem MO_ss (hp : p < e) (h : stp (tx p) S = some S') : MO stp ok tx big (e - p) p S = MO stp ok tx big (e - (p + 1)) (p + 1) S' := by
  rw [ep_s hp]; exact MO_s h
theorem MO_ff (h : p < e → stp (tx p) S = none) (h2 : ¬ p < e → ok S = false) : MO stp ok tx big (e - p) p S = .inl p := by
  by_cases hp : p < e
  · rw [ep_s hp]; exact MO_f (h hp)
  · rw [show e - p = 0 by omega]
    exact MO_n (fun q => by rw [h2 hp] at q; exact absurd q.2 (by decide))
theorem MO_ch {tb : Nat → Int32} (hs : ∀ c b S, CH c b → stp c S = stp b S) : ∀ {k p : Nat} {S : σ}, (∀ j, j < p + k → CH (tx j) (tb j)) → MO stp ok tx big k p S = MO stp ok tb big k p S := by
  intro k
  induction k with
  | zero => intro p S _; rfl
  | succ k ih =>
    intro p S h
    have e := hs _ _ S (h p (by omega))
    cases hl : stp (tb p) S with
    | none => rw [MO_f hl, MO_f (e.trans hl)]
    | some S' => rw [MO_s hl, MO_s (e.trans hl)]; exact ih (fun j hj => h j (by omega))
end MOS
/-- what a sign is not, if it is none below 128 -/
theorem CH.big {c b t : Int32} (a1 : b.toInt < 0) (a2 : 128 ≤ c.toInt) (h0 : 0 ≤ t.toInt) (h1 : t.toInt ≤ 127) : ¬ c = t ∧ ¬ b = t := by
  constructor
  · rintro rfl; omega
  · rintro rfl; omega
theorem CH.rng {c b : Int32} (a1 : b.toInt < 0) (a2 : 128 ≤ c.toInt) (a3 : c.toInt ≤ 255) : 80 ≤ (c - 48).toInt ∧ ((b - 48).toInt < 0 ∨ 80 ≤ (b - 48).toInt) := by
  have r := fb_rng b
  have z48 : (48 : Int32).toInt = 48 := rfl
  have e1 : (c - 48).toInt = c.toInt - 48 := ti_sub (by omega)
  have e2 : (b - 48).toInt = b.toInt - 48 ∨ (b - 48).toInt = b.toInt - 48 + 4294967296 := by
    rw [Int32.toInt_sub, z48, Int.bmod_def]
    by_cases hb : -2147483600 ≤ b.toInt
    · left; omega
    · right; omega
  omega
/-! THE PLAN'S TEXT, SIGN BY SIGN: what stands (0 a side is wanted, 1 it is there, 2 thrown, 3 the other one is wanted, 4 it is there, 5 thrown), rounds begun, games, digits used, who, against whom, thrown, where the rounds begin -/
abbrev PlS : Type := Nat × Nat × Nat × Int32 × (Nat → Int32) × (Nat → Int32) × (Nat → Int32) × (Nat → Nat)
def updN (f : Nat → Nat) (i v : Nat) : Nat → Nat := fun k => if k = i then v else f k
abbrev pSd (n : Nat) (us c : Int32) : Prop := (0 ≤ (c - 48).toInt ∧ (c - 48).toInt < n) ∧ ¬ ((us >>> ((c - 48) &&& 31)) &&& 1) = 1
def pBr (c : Int32) (rd gm : Nat) (us : Int32) (fi se th : Nat → Int32) (sn : Nat → Nat) : Option PlS :=
  if c = 59 then some (0, rd + 1, gm, 0, fi, se, th, updN sn rd gm) else if c = 44 then some (0, rd, gm, us, fi, se, th, sn) else none
def pst (n : Nat) (c : Int32) : PlS → Option PlS
  | (st, rd, gm, us, fi, se, th, sn) =>
    if st = 0 then (if rd ≤ 12 ∧ pSd n us c then some (1, rd, gm + 1, us ||| ((1 : Int32) <<< ((c - 48) &&& 31)), upd fi gm (c - 48), upd se gm (c - 48), upd th gm 0, sn) else none)
    else if st = 1 then (if c = 33 then some (2, rd, gm, us, fi, se, upd th (gm - 1) (th (gm - 1) ||| 1), sn) else if c = 45 then some (3, rd, gm, us, fi, se, th, sn) else none)
    else if st = 2 then (if c = 45 then some (3, rd, gm, us, fi, se, th, sn) else none)
    else if st = 3 then (if rd ≤ 12 ∧ pSd n us c then some (4, rd, gm, us ||| ((1 : Int32) <<< ((c - 48) &&& 31)), fi, upd se (gm - 1) (c - 48), th, sn) else none)
    else if st = 4 then (if c = 33 then some (5, rd, gm, us, fi, se, upd th (gm - 1) (th (gm - 1) ||| 2), sn) else pBr c rd gm us fi se th sn)
    else pBr c rd gm us fi se th sn
def pok : PlS → Bool
  | (st, _) => decide (st = 4 ∨ st = 5)
section PST
variable {n rd gm : Nat} {us c b : Int32} {fi se th : Nat → Int32} {sn : Nat → Nat}
theorem pst_ch (hn : n ≤ 8) (S : PlS) (h : CH c b) : pst n c S = pst n b S := by
  rcases h with ⟨-, -, rfl⟩ | ⟨a1, a2, a3⟩
  · rfl
  · obtain ⟨st, rd, gm, us, fi, se, th, sn⟩ := S
    obtain ⟨c33, b33⟩ := CH.big (t := 33) a1 a2 (by decide) (by decide)
    obtain ⟨c45, b45⟩ := CH.big (t := 45) a1 a2 (by decide) (by decide)
    obtain ⟨c59, b59⟩ := CH.big (t := 59) a1 a2 (by decide) (by decide)
    obtain ⟨c44, b44⟩ := CH.big (t := 44) a1 a2 (by decide) (by decide)
    obtain ⟨r1, r2⟩ := CH.rng a1 a2 a3
    have q1 : ¬ (rd ≤ 12 ∧ pSd n us c) := fun q => by have := q.2.1.2; omega
    have q2 : ¬ (rd ≤ 12 ∧ pSd n us b) := fun q => by have := q.2.1; omega
    unfold pst pBr
    simp only [c33, b33, c45, b45, c59, b59, c44, b44, if_false, if_neg q1, if_neg q2]
theorem pst_0 (h : rd ≤ 12) (hs : pSd n us c) : pst n c (0, rd, gm, us, fi, se, th, sn) = some (1, rd, gm + 1, us ||| ((1 : Int32) <<< ((c - 48) &&& 31)), upd fi gm (c - 48), upd se gm (c - 48), upd th gm 0, sn) := by
  unfold pst
  dsimp only
  rw [if_pos rfl, if_pos ⟨h, hs⟩]
theorem pst_0n (h : ¬ (rd ≤ 12 ∧ pSd n us c)) : pst n c (0, rd, gm, us, fi, se, th, sn) = none := by
  unfold pst
  dsimp only
  rw [if_pos rfl, if_neg h]
theorem pst_1t : pst n 33 (1, rd, gm, us, fi, se, th, sn) = some (2, rd, gm, us, fi, se, upd th (gm - 1) (th (gm - 1) ||| 1), sn) := by
  unfold pst
  dsimp only
  rw [if_neg (by decide), if_pos rfl, if_pos rfl]
theorem pst_1d : pst n 45 (1, rd, gm, us, fi, se, th, sn) = some (3, rd, gm, us, fi, se, th, sn) := by
  unfold pst
  dsimp only
  rw [if_neg (by decide), if_pos rfl, if_neg (by decide), if_pos rfl]
theorem pst_1n (h1 : c ≠ 33) (h2 : c ≠ 45) : pst n c (1, rd, gm, us, fi, se, th, sn) = none := by
  unfold pst
  dsimp only
  rw [if_neg (by decide), if_pos rfl, if_neg h1, if_neg h2]
theorem pst_2d : pst n 45 (2, rd, gm, us, fi, se, th, sn) = some (3, rd, gm, us, fi, se, th, sn) := by
  unfold pst
  dsimp only
  rw [if_neg (by decide), if_neg (by decide), if_pos rfl, if_pos rfl]
theorem pst_2n (h2 : c ≠ 45) : pst n c (2, rd, gm, us, fi, se, th, sn) = none := by
  unfold pst
  dsimp only
  rw [if_neg (by decide), if_neg (by decide), if_pos rfl, if_neg h2]
theorem pst_3 (h : rd ≤ 12) (hs : pSd n us c) : pst n c (3, rd, gm, us, fi, se, th, sn) = some (4, rd, gm, us ||| ((1 : Int32) <<< ((c - 48) &&& 31)), fi, upd se (gm - 1) (c - 48), th, sn) := by
  unfold pst
  dsimp only
  rw [if_neg (by decide), if_neg (by decide), if_neg (by decide), if_pos rfl, if_pos ⟨h, hs⟩]
theorem pst_3n (h : ¬ (rd ≤ 12 ∧ pSd n us c)) : pst n c (3, rd, gm, us, fi, se, th, sn) = none := by
  unfold pst
  dsimp only
  rw [if_neg (by decide), if_neg (by decide), if_neg (by decide), if_pos rfl, if_neg h]
theorem pst_4t : pst n 33 (4, rd, gm, us, fi, se, th, sn) = some (5, rd, gm, us, fi, se, upd th (gm - 1) (th (gm - 1) ||| 2), sn) := by
  unfold pst
  dsimp only
  rw [if_neg (by decide), if_neg (by decide), if_neg (by decide), if_neg (by decide), if_pos rfl, if_pos rfl]
theorem pst_4b (h : c ≠ 33) : pst n c (4, rd, gm, us, fi, se, th, sn) = pBr c rd gm us fi se th sn := by
  unfold pst
  dsimp only
  rw [if_neg (by decide), if_neg (by decide), if_neg (by decide), if_neg (by decide), if_pos rfl, if_neg h]
theorem pst_5b : pst n c (5, rd, gm, us, fi, se, th, sn) = pBr c rd gm us fi se th sn := by
  unfold pst
  dsimp only
  rw [if_neg (by decide), if_neg (by decide), if_neg (by decide), if_neg (by decide), if_neg (by decide)]
theorem pBr_s : pBr 59 rd gm us fi se th sn = some (0, rd + 1, gm, 0, fi, se, th, updN sn rd gm) := if_pos rfl
theorem pBr_c : pBr 44 rd gm us fi se th sn = some (0, rd, gm, us, fi, se, th, sn) := by
  unfold pBr
  rw [if_neg (by decide), if_pos rfl]
theorem pBr_n (h1 : c ≠ 59) (h2 : c ≠ 44) : pBr c rd gm us fi se th sn = none := by
  unfold pBr
  rw [if_neg h1, if_neg h2]
end PST
/-! bits of the digits used -/
theorem bit_q (x : Int32) {k : Nat} (hk : k < 31) : ((x >>> (nI k &&& 31)) &&& 1) = 1 ↔ bt x k = true := by
  have b1 : ∀ i : Fin 32, bt 1 i.val = decide (i.val = 0) := by decide +kernel
  have e : (x >>> (nI k &&& 31)) &&& 1 = if bt x k = true then 1 else 0 := by
    refine b_ext (fun i hi => ?_)
    rw [b_and, b_sshr k (by omega) x hi, b1 ⟨i, hi⟩]
    by_cases h0 : i = 0
    · subst h0
      rw [if_pos (by omega)]
      by_cases hb : bt x k = true
      · rw [if_pos hb]
        show (bt x k && decide (0 = 0)) = _
        rw [hb]; rfl
      · rw [if_neg hb]
        show (bt x k && decide (0 = 0)) = _
        rw [Bool.eq_false_iff.mpr hb]; rfl
    · have hd : decide (i = 0) = false := decide_eq_false h0
      show (_ && decide (i = 0)) = _
      rw [hd, Bool.and_false]
      by_cases hb : bt x k = true
      · rw [if_pos hb]
        have := b1 ⟨i, hi⟩
        rw [this]; exact hd.symm
      · rw [if_neg hb, b_0]
  rw [e]
  by_cases hb : bt x k = true
  · rw [if_pos hb]; exact ⟨fun _ => hb, fun _ => rfl⟩
  · rw [if_neg hb]; exact ⟨fun q => absurd q (by decide), fun q => absurd q hb⟩
theorem bt_1shl {j k : Nat} (hk : k < 31) (hj : j < 31) : bt ((1 : Int32) <<< (nI k &&& 31)) j = decide (j = k) := by
  have b1 : ∀ i : Fin 32, bt 1 i.val = decide (i.val = 0) := by decide +kernel
  rw [b_shl k (by omega) 1 (by omega)]
  by_cases h : k ≤ j
  · rw [b1 ⟨j - k, by omega⟩, decide_eq_true h, Bool.true_and]
    exact decide_eq_decide.mpr (by show j - k = 0 ↔ j = k; omega)
  · rw [decide_eq_false h, Bool.false_and]
    exact (decide_eq_false (by omega)).symm
/-- a digit that was used can't be used again -/
theorem used_ne {us a b : Int32} (ha : 0 ≤ a.toInt) (ha8 : a.toInt < 8) (hb : 0 ≤ b.toInt) (hb8 : b.toInt < 8) (h : ¬ (((us ||| ((1 : Int32) <<< (a &&& 31))) >>> (b &&& 31)) &&& 1) = 1) : a ≠ b := by
  rintro rfl
  obtain ⟨j, hj, rfl⟩ := zn_of ha
  rw [nI_toInt hj] at ha8
  refine h ((bit_q _ (by omega)).mpr ?_)
  rw [b_or, bt_1shl (by omega) (by omega)]
  simp
/-! ONE GAME, ONE ROUND, ALL OF THEM: the model's way is that of the signs -/
def GRel (n r g : Nat) (np fi se th : Nat → Int32) (sn : Nat → Nat) : Prop := ∀ j, j < g → np (4 * j) = fi j ∧ np (4 * j + 1) = se j ∧ np (4 * j + 2) = th j ∧ (0 ≤ (fi j).toInt ∧ (fi j).toInt < n) ∧ (0 ≤ (se j).toInt ∧ (se j).toInt < n) ∧ fi j ≠ se j ∧ (0 ≤ (th j).toInt ∧ (th j).toInt ≤ 3) ∧ ∃ ρ, ρ ≤ r ∧ np (4 * j + 3) = nI ρ ∧ sn ρ ≤ j ∧ (ρ < r → j < sn (ρ + 1))
def SRel (r g : Nat) (sn : Nat → Nat) : Prop := sn 0 = 0 ∧ (∀ ρ, ρ < r → sn ρ ≤ sn (ρ + 1)) ∧ sn r ≤ g
section PGM
variable {tx : Nat → Int32} {e n : Nat} {big : Bool} {O : Nat ⊕ PlS}
theorem sdF_e {used : Int32} {p : Nat} (hn : n ≤ 8) : sdF tx e n used (p, -1) = if p < e ∧ pSd n used (tx p) then (tx p - 48, (p + 1, -1)) else ((sdF tx e n used (p, -1)).1, (sdF tx e n used (p, -1)).2) := by
  by_cases h : p < e ∧ pSd n used (tx p)
  · rw [if_pos h]
    obtain ⟨h1, ⟨h2, h3⟩, h4⟩ := h
    have hd : digF tx e 0 9 (p, -1) = (tx p - 48, (p + 1, -1)) := by
      unfold digF
      rw [if_pos rfl, hr_in h1, if_pos ((dgi (lo := 0) (hi := 9) (l := 0) (u := 9) rfl rfl (by decide) (by decide)).mpr ⟨h2, by omega⟩)]
    unfold sdF
    rw [hd]
    dsimp only
    rw [if_pos rfl, if_pos ⟨(le1_iff (by omega)).mpr ⟨h2, h3⟩, h4⟩]
  · rw [if_neg h]
theorem sdF_n {used : Int32} {p : Nat} (hn : n ≤ 8) (hp : p < 1000) (h : ¬ (p < e ∧ pSd n used (tx p))) : (sdF tx e n used (p, -1)).2.2 = nI p := by
  unfold sdF
  by_cases hd : p < e ∧ 0 ≤ (tx p - 48).toInt ∧ (tx p - 48).toInt ≤ 9
  · have hdg : digF tx e 0 9 (p, -1) = (tx p - 48, (p + 1, -1)) := by
      unfold digF
      rw [if_pos rfl, hr_in hd.1, if_pos ((dgi (lo := 0) (hi := 9) (l := 0) (u := 9) rfl rfl (by decide) (by decide)).mpr hd.2)]
    rw [hdg]
    dsimp only
    rw [if_pos rfl, if_neg (fun q => h ⟨hd.1, (le1_iff (by omega)).mp q.1, q.2⟩)]
    show (fltF (nI (p + 1) - 1) (p + 1, -1)).2 = _
    unfold fltF
    rw [if_pos rfl, nI_pred]
  · have hdg : digF tx e 0 9 (p, -1) = (0, (p, nI p)) := by
      unfold digF
      rw [if_pos rfl, if_neg (fun q => hd (by
        by_cases hlt : p < e
        · rw [hr_in hlt] at q
          exact ⟨hlt, (dgi (lo := 0) (hi := 9) (l := 0) (u := 9) rfl rfl (by decide) (by decide)).mp q⟩
        · rw [hr_out hlt] at q
          exact absurd q.1 (by decide)))]
      unfold fltF
      rw [if_pos rfl]
    rw [hdg]
    dsimp only
    rw [if_neg (fun q => m1_ne p (by omega) q.symm)]
theorem sdF_d {used : Int32} {p : Nat} {w : Int32} (hw : ¬ w = -1) : (sdF tx e n used (p, w)).2 = (p, w) := by
  have hdg : digF tx e 0 9 (p, w) = (0, (p, w)) := by unfold digF; rw [if_neg hw]
  unfold sdF
  rw [hdg]
  dsimp only
  rw [if_neg hw]
theorem needF_e {c : Int32} {p : Nat} (hc : c ≠ -1) : needF tx e c (p, -1) = if p < e ∧ tx p = c then (p + 1, -1) else (p, nI p) := by
  unfold needF
  by_cases h : passF tx e c (p, -1) = true
  · rw [if_pos h, if_pos ((pass_iff hc).mp h)]
  · rw [if_neg h, if_neg (fun q => h ((pass_iff hc).mpr q))]
    unfold fltF
    rw [if_pos rfl]
theorem needF_d {c : Int32} {p : Nat} {w : Int32} (hw : ¬ w = -1) : needF tx e c (p, w) = (p, w) := by
  unfold needF
  rw [if_neg (pass_d hw)]
  exact flt_keep hw
/-- one game -/
theorem one_rel {used : Int32} {p rd gm : Nat} {fi se th : Nat → Int32} {sn : Nat → Nat} (hn : n ≤ 8) (he : e ≤ 80) (hp : p ≤ e) (hrd : rd ≤ 12) (hO : MO (pst n) pok tx big (e - p) p (0, rd, gm, used, fi, se, th, sn) = O) :
    ((oneG tx e n used (p, -1)).2.2.2 ≠ -1 → ∃ q, q ≤ e ∧ O = .inl q ∧ (oneG tx e n used (p, -1)).2.2.2 = nI q) ∧
    ((oneG tx e n used (p, -1)).2.2.2 = -1 → (oneG tx e n used (p, -1)).2.2.1 ≤ e ∧
      (∃ st, (st = 4 ∨ st = 5) ∧ (st = 4 → (oneG tx e n used (p, -1)).2.2.1 < e → tx (oneG tx e n used (p, -1)).2.2.1 ≠ 33) ∧
        MO (pst n) pok tx big (e - (oneG tx e n used (p, -1)).2.2.1) (oneG tx e n used (p, -1)).2.2.1 (st, rd, gm + 1, (oneG tx e n used (p, -1)).2.1, upd fi gm (oneG tx e n used (p, -1)).1.1, upd se gm (oneG tx e n used (p, -1)).1.2.2.1, upd th gm (b12 (oneG tx e n used (p, -1)).1.2.1 (oneG tx e n used (p, -1)).1.2.2.2), sn) = O) ∧
      (oneG tx e n used (p, -1)).1.1 ≠ (oneG tx e n used (p, -1)).1.2.2.1) := by
  by_cases h1 : p < e ∧ pSd n used (tx p)
  · -- the first side
    have eA : sdF tx e n used (p, -1) = (tx p - 48, (p + 1, -1)) := by rw [sdF_e hn, if_pos h1]
    rw [MO_ss h1.1 (pst_0 hrd h1.2)] at hO
    obtain ⟨q2, P1, th1, k2, hq2, hO2, hP1, hth1⟩ : ∃ q2 P1, ∃ th1 : Nat → Int32, ∃ k2 : Nat, (if passF tx e 33 (p + 1, -1) = true then p + 1 + 1 else p + 1) = q2 ∧ MO (pst n) pok tx big (e - q2) q2 (k2, rd, gm + 1, used ||| ((1 : Int32) <<< ((tx p - 48) &&& 31)), upd fi gm (tx p - 48), upd se gm (tx p - 48), th1, sn) = O ∧ passF tx e 33 (p + 1, -1) = P1 ∧ (th1 = upd th gm (if P1 = true then 1 else 0) ∧ q2 ≤ e ∧ (k2 = 2 ∨ (k2 = 1 ∧ (q2 < e → tx q2 ≠ 33)))) := by
      by_cases h33 : passF tx e 33 (p + 1, -1) = true
      · obtain ⟨g1, g2⟩ := (pass_iff (by decide)).mp h33
        rw [MO_ss g1 (by rw [g2]; exact pst_1t)] at hO
        refine ⟨p + 1 + 1, true, _, 2, if_pos h33, hO, h33, ?_, by omega, Or.inl rfl⟩
        rw [Nat.add_sub_cancel, fa_upd_twice]
        have e0 : upd th gm 0 gm ||| 1 = 1 := by
          have : upd th gm 0 gm = 0 := if_pos rfl
          rw [this]; rfl
        rw [e0]
        rfl
      · refine ⟨p + 1, false, _, 1, if_neg h33, hO, Bool.eq_false_iff.mpr h33, rfl, by omega, Or.inr ⟨rfl, fun q z => h33 ((pass_iff (by decide)).mpr ⟨q, z⟩)⟩⟩
    obtain ⟨hth1, hq2e, hk2⟩ := hth1
    by_cases h45 : q2 < e ∧ tx q2 = 45
    · have eN : needF tx e 45 (q2, -1) = (q2 + 1, -1) := by rw [needF_e (by decide), if_pos h45]
      have hO3 : MO (pst n) pok tx big (e - (q2 + 1)) (q2 + 1) (3, rd, gm + 1, used ||| ((1 : Int32) <<< ((tx p - 48) &&& 31)), upd fi gm (tx p - 48), upd se gm (tx p - 48), th1, sn) = O := by
        rcases hk2 with rfl | ⟨rfl, -⟩
        · rw [MO_ss h45.1 (by rw [h45.2]; exact pst_2d)] at hO2; exact hO2
        · rw [MO_ss h45.1 (by rw [h45.2]; exact pst_1d)] at hO2; exact hO2
      by_cases h2 : q2 + 1 < e ∧ pSd n (used ||| ((1 : Int32) <<< ((tx p - 48) &&& 31))) (tx (q2 + 1))
      · have eB : sdF tx e n (used ||| ((1 : Int32) <<< ((tx p - 48) &&& 31))) (q2 + 1, -1) = (tx (q2 + 1) - 48, (q2 + 1 + 1, -1)) := by rw [sdF_e hn, if_pos h2]
        rw [MO_ss h2.1 (pst_3 hrd h2.2)] at hO3
        rw [Nat.add_sub_cancel, fa_upd_twice] at hO3
        have hne : tx p - 48 ≠ tx (q2 + 1) - 48 := used_ne h1.2.1.1 (by have := h1.2.1.2; omega) h2.2.1.1 (by have := h2.2.1.2; omega) h2.2.2
        by_cases h33 : passF tx e 33 (q2 + 1 + 1, -1) = true
        · obtain ⟨g1, g2⟩ := (pass_iff (by decide)).mp h33
          rw [MO_ss g1 (by rw [g2]; exact pst_4t)] at hO3
          have hG : oneG tx e n used (p, -1) = ((tx p - 48, P1, tx (q2 + 1) - 48, true), (used ||| ((1 : Int32) <<< ((tx p - 48) &&& 31))) ||| ((1 : Int32) <<< ((tx (q2 + 1) - 48) &&& 31)), (q2 + 1 + 1 + 1, -1)) := by
            unfold oneG
            rw [eA]; dsimp only; rw [hP1]
            rw [hP1] at hq2
            rw [hq2, eN, eB]; dsimp only; rw [h33]; rfl
          rw [hG]
          refine ⟨fun q => absurd rfl q, fun _ => ⟨by show q2 + 1 + 1 + 1 ≤ e; omega, ⟨5, Or.inr rfl, fun q => absurd q (by decide), ?_⟩, hne⟩⟩
          rw [Nat.add_sub_cancel] at hO3
          have e1 : upd th1 gm (th1 gm ||| 2) = upd th gm (b12 P1 true) := by
            rw [hth1, fa_upd_twice]
            have : upd th gm (if P1 = true then (1 : Int32) else 0) gm = if P1 = true then 1 else 0 := if_pos rfl
            rw [this]
            cases P1 <;> rfl
          rw [e1] at hO3
          exact hO3
        · have hG : oneG tx e n used (p, -1) = ((tx p - 48, P1, tx (q2 + 1) - 48, false), (used ||| ((1 : Int32) <<< ((tx p - 48) &&& 31))) ||| ((1 : Int32) <<< ((tx (q2 + 1) - 48) &&& 31)), (q2 + 1 + 1, -1)) := by
            unfold oneG
            rw [eA]; dsimp only; rw [hP1]
            rw [hP1] at hq2
            rw [hq2, eN, eB]; dsimp only; rw [Bool.eq_false_iff.mpr h33]; rfl
          rw [hG]
          refine ⟨fun q => absurd rfl q, fun _ => ⟨by show q2 + 1 + 1 ≤ e; omega, ⟨4, Or.inl rfl, fun _ q z => h33 ((pass_iff (by decide)).mpr ⟨q, z⟩), ?_⟩, hne⟩⟩
          have e1 : th1 = upd th gm (b12 P1 false) := by
            rw [hth1]
            cases P1 <;> rfl
          rw [e1] at hO3
          exact hO3
      · -- no second side
        have hb := sdF_n (tx := tx) (e := e) (n := n) (p := q2 + 1) hn (by omega) h2
        have hw : (oneG tx e n used (p, -1)).2.2.2 = nI (q2 + 1) := by
          unfold oneG
          rw [eA]; dsimp only; rw [hP1]
          rw [hP1] at hq2
          rw [hq2, eN]; exact hb
        have hO4 : O = .inl (q2 + 1) := by
          rw [← hO3]
          exact MO_ff (fun q => pst_3n (fun z => h2 ⟨q, z.2⟩)) (fun _ => rfl)
        rw [hw]
        exact ⟨fun _ => ⟨q2 + 1, by omega, hO4, rfl⟩, fun q => absurd q.symm (m1_ne _ (by omega))⟩
    · -- no dash
      have eN : needF tx e 45 (q2, -1) = (q2, nI q2) := by rw [needF_e (by decide), if_neg h45]
      have hw1 : ¬ nI q2 = -1 := fun q => m1_ne q2 (by omega) q.symm
      have hw : (oneG tx e n used (p, -1)).2.2.2 = nI q2 := by
        unfold oneG
        rw [eA]; dsimp only; rw [hP1]
        rw [hP1] at hq2
        rw [hq2, eN, sdF_d hw1]
      have hO4 : O = .inl q2 := by
        rw [← hO2]
        rcases hk2 with rfl | ⟨rfl, h33⟩
        · exact MO_ff (fun q => pst_2n (fun z => h45 ⟨q, z⟩)) (fun _ => rfl)
        · exact MO_ff (fun q => pst_1n (h33 q) (fun z => h45 ⟨q, z⟩)) (fun _ => rfl)
      rw [hw]
      exact ⟨fun _ => ⟨q2, hq2e, hO4, rfl⟩, fun q => absurd q hw1⟩
  · -- no first side
    have hb := sdF_n (tx := tx) (e := e) (n := n) (used := used) hn (by omega : p < 1000) h1
    have hw1 : ¬ nI p = -1 := fun q => m1_ne p (by omega) q.symm
    have hw : (oneG tx e n used (p, -1)).2.2.2 = nI p := by
      unfold oneG
      dsimp only
      generalize sdF tx e n used (p, -1) = A at hb
      obtain ⟨a1, q1, u1⟩ := A
      dsimp only at hb ⊢
      subst hb
      rw [Bool.eq_false_iff.mpr (pass_d (tx := tx) (e := e) (c := 33) (p := q1) hw1)]
      rw [if_neg (by decide), needF_d hw1, sdF_d hw1]
    have hO4 : O = .inl p := by
      rw [← hO]
      exact MO_ff (fun q => pst_0n (fun z => h1 ⟨q, z.2⟩)) (fun _ => rfl)
    rw [hw]
    exact ⟨fun _ => ⟨p, hp, hO4, rfl⟩, fun q => absurd q hw1⟩
theorem gm_cons {r k g : Nat} {used : Int32} {np : Nat → Int32} {p : Nat} : gmF tx e n r (k + 1) used g np (p, -1) = if (oneG tx e n used (p, -1)).2.2.2 = -1 then
    (if passF tx e 44 (oneG tx e n used (p, -1)).2.2 = true then gmF tx e n r k (oneG tx e n used (p, -1)).2.1 (g + 1) (upG np g r (oneG tx e n used (p, -1)).1) ((oneG tx e n used (p, -1)).2.2.1 + 1, (oneG tx e n used (p, -1)).2.2.2) else (g + 1, upG np g r (oneG tx e n used (p, -1)).1, (oneG tx e n used (p, -1)).2.2))
    else (g, np, (oneG tx e n used (p, -1)).2.2) := if_pos rfl
theorem gm_dead {r k g : Nat} {used : Int32} {np : Nat → Int32} {p : Nat} {w : Int32} (hw : ¬ w = -1) : gmF tx e n r k used g np (p, w) = (g, np, (p, w)) := by
  cases k with
  | zero => rfl
  | succ k => exact if_neg hw
theorem b12_r (b c : Bool) : 0 ≤ (b12 b c).toInt ∧ (b12 b c).toInt ≤ 3 := by cases b <;> cases c <;> decide
theorem upd_e {f : Nat → Int32} {i : Nat} {v : Int32} : upd f i v i = v := if_pos rfl
theorem upd_n {f : Nat → Int32} {i j : Nat} {v : Int32} (h : j ≠ i) : upd f i v j = f j := if_neg h
theorem GRel.add {r g : Nat} {np fi se th : Nat → Int32} {sn : Nat → Nat} (h : GRel n r g np fi se th sn) (hs : sn r ≤ g) {G : Int32 × Bool × Int32 × Bool} (h1 : 0 ≤ G.1.toInt ∧ G.1.toInt < n) (h2 : 0 ≤ G.2.2.1.toInt ∧ G.2.2.1.toInt < n) (h3 : G.1 ≠ G.2.2.1) :
    GRel n r (g + 1) (upG np g r G) (upd fi g G.1) (upd se g G.2.2.1) (upd th g (b12 G.2.1 G.2.2.2)) sn := by
  intro j hj
  unfold upG
  by_cases hjg : j = g
  · subst hjg
    refine ⟨?_, ?_, ?_, ?_, ?_, ?_, ?_, r, Nat.le_refl _, ?_, hs, fun q => absurd q (Nat.lt_irrefl _)⟩
    · rw [upd_n (by omega), upd_n (by omega), upd_n (by omega), upd_e, upd_e]
    · rw [upd_n (by omega), upd_n (by omega), upd_e, upd_e]
    · rw [upd_n (by omega), upd_e, upd_e]
    · rw [upd_e]; exact h1
    · rw [upd_e]; exact h2
    · rw [upd_e, upd_e]; exact h3
    · rw [upd_e]; exact b12_r _ _
    · rw [upd_e]
  · obtain ⟨a1, a2, a3, a4, a5, a6, a7, ρ, b1, b2, b3, b4⟩ := h j (by omega)
    rw [upd_n hjg, upd_n hjg, upd_n hjg]
    refine ⟨?_, ?_, ?_, a4, a5, a6, a7, ρ, b1, ?_, b3, b4⟩
    · rw [upd_n (by omega), upd_n (by omega), upd_n (by omega), upd_n (by omega)]; exact a1
    · rw [upd_n (by omega), upd_n (by omega), upd_n (by omega), upd_n (by omega)]; exact a2
    · rw [upd_n (by omega), upd_n (by omega), upd_n (by omega), upd_n (by omega)]; exact a3
    · rw [upd_n (by omega), upd_n (by omega), upd_n (by omega), upd_n (by omega)]; exact b2
/-- one round -/
theorem gm_rel {r : Nat} {sn : Nat → Nat} (hn : n ≤ 8) (he : e ≤ 80) (hrd : r + 1 ≤ 12) : ∀ (k : Nat) (used : Int32) (g : Nat) (np : Nat → Int32) (p : Nat) (fi se th : Nat → Int32), e - p < k → p ≤ e → GRel n r g np fi se th sn → sn r ≤ g → MO (pst n) pok tx big (e - p) p (0, r + 1, g, used, fi, se, th, sn) = O →
    ((gmF tx e n r k used g np (p, -1)).2.2.2 ≠ -1 → ∃ q, q ≤ e ∧ O = .inl q ∧ (gmF tx e n r k used g np (p, -1)).2.2.2 = nI q) ∧
    ((gmF tx e n r k used g np (p, -1)).2.2.2 = -1 → (gmF tx e n r k used g np (p, -1)).2.2.1 ≤ e ∧ g < (gmF tx e n r k used g np (p, -1)).1 ∧
      ∃ st us fi' se' th', (st = 4 ∨ st = 5) ∧ (st = 4 → (gmF tx e n r k used g np (p, -1)).2.2.1 < e → tx (gmF tx e n r k used g np (p, -1)).2.2.1 ≠ 33) ∧ ((gmF tx e n r k used g np (p, -1)).2.2.1 < e → tx (gmF tx e n r k used g np (p, -1)).2.2.1 ≠ 44) ∧
        MO (pst n) pok tx big (e - (gmF tx e n r k used g np (p, -1)).2.2.1) (gmF tx e n r k used g np (p, -1)).2.2.1 (st, r + 1, (gmF tx e n r k used g np (p, -1)).1, us, fi', se', th', sn) = O ∧
        GRel n r (gmF tx e n r k used g np (p, -1)).1 (gmF tx e n r k used g np (p, -1)).2.1 fi' se' th' sn) := by
  intro k
  induction k with
  | zero => intros; omega
  | succ k ih =>
    intro used g np p fi se th hk hp hG hs hO
    have h2 := oneG_2 (tx := tx) (e := e) hn (used := used) (s := (p, -1)) (by show p ≤ 80; omega)
    obtain ⟨r1, r2⟩ := one_rel hn he hp hrd hO
    rw [gm_cons]
    generalize oneG tx e n used (p, -1) = R at h2 r1 r2 ⊢
    obtain ⟨G, u2, q5, u4⟩ := R
    dsimp only at h2 r1 r2 ⊢
    by_cases hu : u4 = -1
    · subst hu
      rw [if_pos rfl]
      obtain ⟨-, g1, g2, gl⟩ := h2 rfl
      obtain ⟨k1, ⟨st, k2, k3, k4⟩, k5⟩ := r2 rfl
      have hG' := hG.add hs g1 g2 k5
      by_cases h44 : passF tx e 44 (q5, -1) = true
      · rw [if_pos h44]
        obtain ⟨c1, c2⟩ := (pass_iff (by decide)).mp h44
        have hst : pst n (tx q5) (st, r + 1, g + 1, u2, upd fi g G.1, upd se g G.2.2.1, upd th g (b12 G.2.1 G.2.2.2), sn) = some (0, r + 1, g + 1, u2, upd fi g G.1, upd se g G.2.2.1, upd th g (b12 G.2.1 G.2.2.2), sn) := by
          rw [c2]
          rcases k2 with rfl | rfl
          · rw [pst_4b (by decide)]; exact pBr_c
          · rw [pst_5b]; exact pBr_c
        rw [MO_ss c1 hst] at k4
        have := ih u2 (g + 1) _ (q5 + 1) _ _ _ (by omega) (by omega) hG' (by omega) k4
        refine ⟨this.1, fun q => ?_⟩
        obtain ⟨a1, a2, a3⟩ := this.2 q
        exact ⟨a1, by omega, a3⟩
      · rw [if_neg h44]
        refine ⟨fun q => absurd rfl q, fun _ => ⟨k1, by show g < g + 1; omega, st, u2, _, _, _, k2, k3, fun q z => h44 ((pass_iff (by decide)).mpr ⟨q, z⟩), k4, hG'⟩⟩
    · rw [if_neg hu]
      exact ⟨r1, fun q => absurd q hu⟩
theorem rd_cons {r k g : Nat} {np : Nat → Int32} {p : Nat} : rdF tx e n (k + 1) r g np (p, -1) = (if passF tx e 59 (gmF tx e n r 81 0 g np (if r = 12 then fltF (nI p) (p, -1) else (p, -1))).2.2 = true then rdF tx e n k (r + 1) (gmF tx e n r 81 0 g np (if r = 12 then fltF (nI p) (p, -1) else (p, -1))).1 (gmF tx e n r 81 0 g np (if r = 12 then fltF (nI p) (p, -1) else (p, -1))).2.1 ((gmF tx e n r 81 0 g np (if r = 12 then fltF (nI p) (p, -1) else (p, -1))).2.2.1 + 1, (gmF tx e n r 81 0 g np (if r = 12 then fltF (nI p) (p, -1) else (p, -1))).2.2.2) else (r + 1, (gmF tx e n r 81 0 g np (if r = 12 then fltF (nI p) (p, -1) else (p, -1))).1, (gmF tx e n r 81 0 g np (if r = 12 then fltF (nI p) (p, -1) else (p, -1))).2.1, (gmF tx e n r 81 0 g np (if r = 12 then fltF (nI p) (p, -1) else (p, -1))).2.2)) := if_pos rfl
theorem updN_e {f : Nat → Nat} {i v : Nat} : updN f i v i = v := if_pos rfl
theorem updN_n {f : Nat → Nat} {i j v : Nat} (h : j ≠ i) : updN f i v j = f j := if_neg h
/-- all rounds -/
theorem rd_rel (hn : n ≤ 8) (he : e ≤ 80) : ∀ (k r g : Nat) (np : Nat → Int32) (p : Nat) (fi se th : Nat → Int32) (sn : Nat → Nat), 13 ≤ k + r → r ≤ 12 → p ≤ e → GRel n r g np fi se th sn → SRel r g sn → MO (pst n) pok tx big (e - p) p (0, r + 1, g, 0, fi, se, th, sn) = O →
    ((rdF tx e n k r g np (p, -1)).2.2.2.2 ≠ -1 → ∃ q, q ≤ e ∧ O = .inl q ∧ (rdF tx e n k r g np (p, -1)).2.2.2.2 = nI q) ∧
    ((rdF tx e n k r g np (p, -1)).2.2.2.2 = -1 → (rdF tx e n k r g np (p, -1)).2.2.2.1 ≤ e ∧ 1 ≤ (rdF tx e n k r g np (p, -1)).1 ∧ (rdF tx e n k r g np (p, -1)).1 ≤ 12 ∧ g < (rdF tx e n k r g np (p, -1)).2.1 ∧
      ∃ st us fi' se' th' sn', (st = 4 ∨ st = 5) ∧ (st = 4 → (rdF tx e n k r g np (p, -1)).2.2.2.1 < e → tx (rdF tx e n k r g np (p, -1)).2.2.2.1 ≠ 33) ∧ ((rdF tx e n k r g np (p, -1)).2.2.2.1 < e → tx (rdF tx e n k r g np (p, -1)).2.2.2.1 ≠ 44 ∧ tx (rdF tx e n k r g np (p, -1)).2.2.2.1 ≠ 59) ∧
        MO (pst n) pok tx big (e - (rdF tx e n k r g np (p, -1)).2.2.2.1) (rdF tx e n k r g np (p, -1)).2.2.2.1 (st, (rdF tx e n k r g np (p, -1)).1, (rdF tx e n k r g np (p, -1)).2.1, us, fi', se', th', sn') = O ∧
        GRel n ((rdF tx e n k r g np (p, -1)).1 - 1) (rdF tx e n k r g np (p, -1)).2.1 (rdF tx e n k r g np (p, -1)).2.2.1 fi' se' th' sn' ∧ SRel ((rdF tx e n k r g np (p, -1)).1 - 1) (rdF tx e n k r g np (p, -1)).2.1 sn') := by
  intro k
  induction k with
  | zero => intros; omega
  | succ k ih =>
    intro r g np p fi se th sn hk hr hp hG hS hO
    rw [rd_cons]
    by_cases h12 : r = 12
    · have hw1 : ¬ nI p = -1 := fun q => m1_ne p (by omega) q.symm
      have e1 : (if r = 12 then fltF (nI p) (p, -1) else (p, -1)) = (p, nI p) := by
        rw [if_pos h12]
        show (if (-1 : Int32) = -1 then (p, nI p) else (p, -1)) = _
        rw [if_pos rfl]
      rw [e1, gm_dead hw1]
      dsimp only
      rw [if_neg (pass_d hw1)]
      have hO4 : O = .inl p := by
        rw [← hO]
        exact MO_ff (fun q => pst_0n (fun z => by omega)) (fun _ => rfl)
      exact ⟨fun _ => ⟨p, hp, hO4, rfl⟩, fun q => absurd q hw1⟩
    · have e1 : (if r = 12 then fltF (nI p) (p, -1) else (p, -1)) = (p, -1) := if_neg h12
      rw [e1]
      obtain ⟨r1, r2⟩ := gm_rel hn he (by omega : r + 1 ≤ 12) 81 0 g np p fi se th (by omega) hp hG hS.2.2 hO
      generalize gmF tx e n r 81 0 g np (p, -1) = R at r1 r2 ⊢
      obtain ⟨g', np', q, w⟩ := R
      dsimp only at r1 r2 ⊢
      by_cases hw : w = -1
      · subst hw
        obtain ⟨k1, k2, st, us, fi', se', th', k3, k4, k5, k6, k7⟩ := r2 rfl
        by_cases h59 : passF tx e 59 (q, -1) = true
        · rw [if_pos h59]
          obtain ⟨c1, c2⟩ := (pass_iff (by decide)).mp h59
          have hst : pst n (tx q) (st, r + 1, g', us, fi', se', th', sn) = some (0, r + 1 + 1, g', 0, fi', se', th', updN sn (r + 1) g') := by
            rw [c2]
            rcases k3 with rfl | rfl
            · rw [pst_4b (by decide)]; exact pBr_s
            · rw [pst_5b]; exact pBr_s
          rw [MO_ss c1 hst] at k6
          have hG' : GRel n (r + 1) g' np' fi' se' th' (updN sn (r + 1) g') := by
            intro j hj
            obtain ⟨a1, a2, a3, a4, a5, a6, a7, ρ, b1, b2, b3, b4⟩ := k7 j hj
            refine ⟨a1, a2, a3, a4, a5, a6, a7, ρ, by omega, b2, by rw [updN_n (by omega)]; exact b3, fun _ => ?_⟩
            by_cases hρ : ρ = r
            · rw [hρ, updN_e]; exact hj
            · rw [updN_n (by omega)]; exact b4 (by omega)
          have hS' : SRel (r + 1) g' (updN sn (r + 1) g') := by
            obtain ⟨s1, s2, s3⟩ := hS
            refine ⟨by rw [updN_n (by omega)]; exact s1, fun ρ hρ => ?_, by rw [updN_e]; exact Nat.le_refl _⟩
            by_cases hρ2 : ρ = r
            · rw [hρ2, updN_e, updN_n (by omega)]; omega
            · rw [updN_n (by omega), updN_n (by omega)]; exact s2 ρ (by omega)
          have := ih (r + 1) g' np' (q + 1) fi' se' th' _ (by omega) (by omega) (by omega) hG' hS' k6
          refine ⟨this.1, fun z => ?_⟩
          obtain ⟨a1, a2, a3, a4, a5⟩ := this.2 z
          exact ⟨a1, a2, a3, by omega, a5⟩
        · rw [if_neg h59]
          refine ⟨fun z => absurd rfl z, fun _ => ⟨k1, by show 1 ≤ r + 1; omega, by show r + 1 ≤ 12; omega, k2, st, us, fi', se', th', sn, k3, k4, fun z => ⟨k5 z, fun z2 => h59 ((pass_iff (by decide)).mpr ⟨z, z2⟩)⟩, k6, k7, hS.1, hS.2.1, ?_⟩⟩
          have := hS.2.2
          show sn r ≤ g'
          omega
      · rw [if_neg (pass_d hw)]
        exact ⟨r1, fun q => absurd q hw⟩
end PGM
