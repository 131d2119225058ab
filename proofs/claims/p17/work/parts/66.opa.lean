/-! WHAT STANDS BETWEEN TWO CALLS, AND THE CALLS THAT READ THE TEXT -/
def IL : List Nat := [0, 8, 21, 23, 25, 39, 41]
def RG (m : Wm) : Prop := (m.1 187 11).toInt = 0 ∨ 1 ≤ (m.1 187 10).toInt
def IV (m : Wm) : Prop := RG m ∧ TXI m ∧ m.1 3 3 = m.1 187 1 ∧ m.1 3 4 = m.1 187 0 ∧ m.1 0 15 = m.1 187 52
/-- what stands, and K besides -/
def InvK (K : Wm → Prop) (m : Wm) : Prop := WT m ∧ IV m ∧ K m
/-- the regions that K may speak of -/
def KL : List Nat := [1, 4, 6, 7, 13, 23, 24, 25, 29, 40, 41, 42, 43, 44, 45, 46, 47, 48, 49, 52, 53, 54, 55]
/-- calls that leave KL alone lead from K to K' -/
def KD (K K' : Wm → Prop) : Prop := ∀ {S1 S2 : List Nat} {m m1 m2 : Wm}, Fx (RS S1) m m1 → Fx (RS S2) m1 m2 → K m → S1.all (fun x => !(KL.elem x)) = true → S2.all (fun x => !(KL.elem x)) = true → K' m2
/-- calls that touch A in the class and B in the model alone lead from K to K' -/
def TR (A B : List Nat) (K K' : Wm → Prop) : Prop := ∀ {m m1 m2 : Wm}, Fx (RS A) m m1 → Fx (RS B) m1 m2 → K m → K' m2
theorem TR.use {A B S1 S2 : List Nat} {K K' : Wm → Prop} {m m1 m2 : Wm} (h : TR A B K K') (f1 : Fx (RS S1) m m1) (f2 : Fx (RS S2) m1 m2) (k : K m) (e1 : (S1.all fun x => A.elem x) = true) (e2 : (S2.all fun x => B.elem x) = true) : K' m2 := h (Fx.tr Fx.rf f1 (RS_sub e1)) (Fx.tr Fx.rf f2 (RS_sub e2)) k
theorem nRS {S : List Nat} {a k ρ : Nat} (h : S.elem ρ = false) (e : rg a k = ρ) : ¬ RS S a k := fun q => by unfold RS at q; rw [e, h] at q; cases q
theorem all_ne {S L : List Nat} {ρ : Nat} (e : S.all (fun x => !(L.elem x)) = true) (h : L.elem ρ = true) : S.elem ρ = false := by
  cases hs : S.elem ρ with
  | false => rfl
  | true =>
    have h1 := List.all_eq_true.mp e ρ (List.mem_of_elem_eq_true hs)
    rw [h] at h1
    exact absurd h1 (by decide)
section OPA
variable {ad : Nat → Nat} {d : Nat} {m m' : Wm} {S : List Nat} {K K' : Wm → Prop}
theorem RG.fx (h : RG m) (f : Fx (RS S) m m') (e : S.elem 25 = false) : RG m' := by
  unfold RG
  rw [f.at (a := 187) (k := 11) (nRS e rfl), f.at (a := 187) (k := 10) (nRS e rfl)]
  exact h
theorem TXI.fx (h : TXI m) (f : Fx (RS S) m m') (e : S.elem 0 = false) (e2 : S.elem 21 = false) : TXI m' := by
  unfold TXI
  rw [f.at (a := 1) (k := 1) (nRS e rfl), f.at (a := 187) (k := 14) (nRS e2 rfl)]
  refine ⟨h.1, fun k hk => ?_⟩
  rw [f.at (a := 2) (k := k) (nRS e rfl), f.at (a := 195) (k := k) (nRS e2 rfl)]
  exact h.2 k hk
theorem TXI.zero (h1 : (m.1 1 1).toInt = 0) (h2 : (m.1 187 14).toInt = 0) : TXI m := ⟨(fa_eq _ _).mpr (by omega), fun k hk => absurd hk (by omega)⟩
theorem IV.fx (h : IV m) (f : Fx (RS S) m m') (e : S.all (fun x => !(IL.elem x)) = true) : IV m' := by
  obtain ⟨h1, h2, h3, h4, h5⟩ := h
  refine ⟨h1.fx f (all_ne e rfl), h2.fx f (all_ne e rfl) (all_ne e rfl), ?_, ?_, ?_⟩
  · rw [f.at (a := 3) (k := 3) (nRS (all_ne e (ρ := 41) rfl) rfl), f.at (a := 187) (k := 1) (nRS (all_ne e (ρ := 23) rfl) rfl)]; exact h3
  · rw [f.at (a := 3) (k := 4) (nRS (all_ne e (ρ := 41) rfl) rfl), f.at (a := 187) (k := 0) (nRS (all_ne e (ρ := 23) rfl) rfl)]; exact h4
  · rw [f.at (a := 0) (k := 15) (nRS (all_ne e (ρ := 8) rfl) rfl), f.at (a := 187) (k := 52) (nRS (all_ne e (ρ := 39) rfl) rfl)]; exact h5
theorem IV.f2 {m1 m2 : Wm} {S1 S2 : List Nat} (h : IV m) (f1 : Fx (RS S1) m m1) (f2 : Fx (RS S2) m1 m2) (e1 : S1.all (fun x => !(IL.elem x)) = true) (e2 : S2.all (fun x => !(IL.elem x)) = true) : IV m2 := (h.fx f1 e1).fx f2 e2
/-- the same numbers, without the text and the games -/
theorem IV.sd {m1 m2 : Wm} {S1 S2 : List Nat} (h : IV m) (f1 : Fx (RS S1) m m1) (f2 : Fx (RS S2) m1 m2) (e1 : S1.all (fun x => !(([8, 23, 39, 41] : List Nat).elem x)) = true) (e2 : S2.all (fun x => !(([8, 23, 39, 41] : List Nat).elem x)) = true) : m2.1 3 3 = m2.1 187 1 ∧ m2.1 3 4 = m2.1 187 0 ∧ m2.1 0 15 = m2.1 187 52 := by
  obtain ⟨-, -, h3, h4, h5⟩ := h
  refine ⟨?_, ?_, ?_⟩
  · rw [f2.at (a := 3) (k := 3) (nRS (all_ne e2 (ρ := 41) rfl) rfl), f2.at (a := 187) (k := 1) (nRS (all_ne e2 (ρ := 23) rfl) rfl), f1.at (a := 3) (k := 3) (nRS (all_ne e1 (ρ := 41) rfl) rfl), f1.at (a := 187) (k := 1) (nRS (all_ne e1 (ρ := 23) rfl) rfl)]; exact h3
  · rw [f2.at (a := 3) (k := 4) (nRS (all_ne e2 (ρ := 41) rfl) rfl), f2.at (a := 187) (k := 0) (nRS (all_ne e2 (ρ := 23) rfl) rfl), f1.at (a := 3) (k := 4) (nRS (all_ne e1 (ρ := 41) rfl) rfl), f1.at (a := 187) (k := 0) (nRS (all_ne e1 (ρ := 23) rfl) rfl)]; exact h4
  · rw [f2.at (a := 0) (k := 15) (nRS (all_ne e2 (ρ := 8) rfl) rfl), f2.at (a := 187) (k := 52) (nRS (all_ne e2 (ρ := 39) rfl) rfl), f1.at (a := 0) (k := 15) (nRS (all_ne e1 (ρ := 8) rfl) rfl), f1.at (a := 187) (k := 52) (nRS (all_ne e1 (ρ := 39) rfl) rfl)]; exact h5
def Both (ad : Nat → Nat) (d : Nat) (μ μ' : MI) (as : List Value) (I J : Wm → Prop) : Prop := ∀ m, I m → Ct ad μ (d + 300) (.ref (ad 0) :: as) m (fun r m1 => ∃ v : Int32, r = some (.int v) ∧ Ct ad μ' (d + 300) (.ref (ad 187) :: as) m1 (fun r m2 => r = some (.int v) ∧ J m2))
def BothW (ad : Nat → Nat) (d : Nat) (μ μ' : MI) (as : List Value) (I J : Wm → Prop) : Prop := ∀ m, I m → Ct ad μ (d + 300) (.ref (ad 0) :: as) m (fun r m1 => (∃ v : Int32, r = some (.int v)) ∧ Ct ad μ' (d + 300) (.ref (ad 187) :: as) m1 (fun r m2 => (∃ w : Int32, r = some (.int w)) ∧ J m2))
theorem Both.w {μ μ' : MI} {as : List Value} {I J : Wm → Prop} (h : Both ad d μ μ' as I J) : BothW ad d μ μ' as I J := fun m hI => (h m hI).to (fun r m1 h => by
  obtain ⟨v, rfl, h2⟩ := h
  exact ⟨⟨v, rfl⟩, h2.to (fun r m2 h => ⟨⟨v, h.1⟩, h.2⟩)⟩)
theorem os_sign (hK : KD K K') (a : Int32) : Both ad d μX11_sign μX12_sign [.int a] (InvK K) (InvK K') := fun m I => by
  obtain ⟨w, ⟨h1, h2, h3⟩, k0⟩ := I
  refine (sign_both (d := d + 299) w h2).to ?_
  rintro r m1 ⟨v, rfl, w1, f1, k⟩
  refine ⟨v, rfl, k.to ?_⟩
  rintro r m2 ⟨rfl, w2, f2, T2⟩
  exact ⟨rfl, w2, ⟨(h1.fx f1 rfl).fx f2 rfl, T2, IV.sd ⟨h1, h2, h3⟩ f1 f2 rfl rfl⟩, hK f1 f2 k0 rfl rfl⟩
theorem e_endC {x : Int32} (w : WT m) : Ct ad μX11_end (d + 1) [.ref (ad 0), .int x] m (fun r m' => WT m' ∧ ((0 ≤ x.toInt ∧ x.toInt ≤ (m.1 1 1).toInt ∧ r = some (.int 1) ∧ m' = uI m 1 1 x) ∨ (¬ (0 ≤ x.toInt ∧ x.toInt ≤ (m.1 1 1).toInt) ∧ r = some (.int 0) ∧ m' = m))) := by
  have t := w.at (a := 1) (k := 1) rfl
  refine v_X11_end (v_X10_cut ⟨fun c => ⟨0, rfl, bz_0, w, Or.inr ⟨?_, rfl, rfl⟩⟩, fun c => ⟨fun c2 => ⟨1, rfl, bz_1, ?_, Or.inl ⟨?_, ?_, rfl, rfl⟩⟩, fun c2 => ⟨0, rfl, bz_0, w, Or.inr ⟨?_, rfl, rfl⟩⟩⟩⟩)
  · have := y_ltr (n := 0) rfl c; omega
  · exact w.t rfl (y_nltr (n := 0) rfl c) (by have := z_le c2; omega)
  · exact y_nltr (n := 0) rfl c
  · exact z_le c2
  · have := z_nle c2; omega
theorem e_endM {x : Int32} (w : WT m) : Ct ad μX12_end (d + 1) [.ref (ad 187), .int x] m (fun r m' => WT m' ∧ Fx (RS [20, 21]) m m' ∧ (∀ k, m'.1 195 k = m.1 195 k) ∧ ((0 ≤ x.toInt ∧ x.toInt ≤ (m.1 187 14).toInt ∧ r = some (.int 1) ∧ m'.1 187 14 = x) ∨ (¬ (0 ≤ x.toInt ∧ x.toInt ≤ (m.1 187 14).toInt) ∧ r = some (.int 0) ∧ m'.1 187 14 = m.1 187 14))) := by
  have t := w.at (a := 187) (k := 14) rfl
  have z0 : (0 : Int32).toInt = 0 := rfl
  refine v_X12_end ((in_i (lo := 0) (hi := m.1 187 14) rfl rfl).to ?_)
  rintro _ m' ⟨eq, rfl⟩
  obtain rfl := eq.symm
  by_cases hc : 0 ≤ x ∧ x ≤ m.1 187 14
  · have c1 := z_le hc.1
    have c2 := z_le hc.2
    exact ⟨1, by rw [if_pos hc], fun _ => ⟨(w.n rfl).t rfl (by omega) (by omega), ((Fx.rf (S := RS [20, 21])).i rfl).i rfl, fun _ => rfl, Or.inl ⟨by omega, c2, rfl, rfl⟩⟩, fun z => absurd z (by decide)⟩
  · refine ⟨0, by rw [if_neg hc], fun z => absurd rfl z, fun _ => ⟨w.n rfl, Fx.rf.i rfl, fun _ => rfl, Or.inr ⟨fun q => hc ⟨(fa_le _ _).mpr (by omega), (fa_le _ _).mpr q.2⟩, rfl, rfl⟩⟩⟩
theorem os_end (hK : KD K K') (a : Int32) : Both ad d μX11_end μX12_end [.int a] (InvK K) (InvK K') := fun m I => by
  obtain ⟨w, ⟨h1, h2, h3⟩, k0⟩ := I
  have t1 : (m.1 1 1).toInt = (m.1 187 14).toInt := congrArg _ h2.1
  refine (e_endC (d := d + 299) w).to ?_
  rintro r m1 ⟨w1, h⟩
  rcases h with ⟨a1, a2, rfl, e⟩ | ⟨a1, rfl, e⟩
  · subst e
    have f1 : Fx (RS [0]) m (uI m 1 1 a) := Fx.rf.i rfl
    refine ⟨1, rfl, (e_endM (d := d + 299) w1).to ?_⟩
    rintro r m2 ⟨w2, f2, g, b⟩
    have e14 : (uI m 1 1 a).1 187 14 = m.1 187 14 := rfl
    rw [e14] at b
    rcases b with ⟨b1, b2, rfl, b3⟩ | ⟨b1, -⟩
    · have e11 : m2.1 1 1 = a := f2.at (a := 1) (k := 1) (by decide)
      refine ⟨rfl, w2, ⟨(h1.fx f1 rfl).fx f2 rfl, ⟨e11.trans b3.symm, fun k hk => ?_⟩, IV.sd ⟨h1, h2, h3⟩ f1 f2 rfl rfl⟩, hK f1 f2 k0 rfl rfl⟩
      rw [e11] at hk
      rw [f2.at (a := 2) (k := k) (nRS (ρ := 0) rfl rfl), g k]
      exact h2.2 k (by omega)
    · omega
  · subst e
    refine ⟨0, rfl, (e_endM (d := d + 299) w1).to ?_⟩
    rintro r m2 ⟨w2, f2, g, b⟩
    rcases b with ⟨b1, b2, -⟩ | ⟨b1, rfl, b3⟩
    · omega
    · have e11 : m2.1 1 1 = m1.1 1 1 := f2.at (a := 1) (k := 1) (by decide)
      refine ⟨rfl, w2, ⟨h1.fx f2 rfl, ⟨by rw [e11, b3]; exact h2.1, fun k hk => ?_⟩, IV.sd ⟨h1, h2, h3⟩ (Fx.rf (S := RS [])) f2 rfl rfl⟩, hK (Fx.rf (S := RS [])) f2 k0 rfl rfl⟩
      rw [e11] at hk
      rw [f2.at (a := 2) (k := k) (nRS (ρ := 0) rfl rfl), g k]
      exact h2.2 k hk
/-- the model's league() of an empty text -/
theorem e_leagueM0 (w : WT m) (ht : m.1 187 14 = 0) : Ct ad μX12_league (d + 5) [.ref (ad 187)] m (fun r m' => WT m' ∧ Fx (RS [20, 21, 22]) m m' ∧ r = some (.int 0) ∧ m'.1 187 14 = 0) := by
  have w0 : WT (uI m 187 17 0) := w.n rfl
  refine v_X12_league (d := d + 4) ((begin_ok (na := 80) rfl).to ?_)
  rintro _ m1 ⟨rfl, e1⟩
  have e1' : m1 = bgM (uI m 187 17 0) 195 (nI 0) (nI 76) := by rw [e1]; show bgM _ _ (m.1 187 14) _ = _; rw [ht]; rfl
  subst e1'
  clear e1
  have f1 : Fx (RS [22]) (uI m 187 17 0) (bgM (uI m 187 17 0) 195 (nI 0) (nI 76)) := bg_fx
  have P1 : PS 195 0 76 0 ((uI m 187 17 0).1 195) 0 (-1) (bgM (uI m 187 17 0) 195 (nI 0) (nI 76)) := bg_ps (by decide) (by decide)
  have w1 := w0.fx f1
  have F1 : Fx (RS [20, 21, 22]) m (bgM (uI m 187 17 0) 195 (nI 0) (nI 76)) := ((Fx.rf (S := RS [20, 21, 22]) (m := m)).i (a := 187) (k := 17) (v := 0) rfl).tr f1 (RS_sub rfl)
  generalize bgM (uI m 187 17 0) 195 (nI 0) (nI 76) = mb at f1 P1 w1 F1 ⊢
  have h19 : (uI mb 187 14 0).1 187 19 = nI 0 := P1.2.1
  refine ⟨rfl, fun c => ?_, fun _ => ⟨w1.t rfl (by decide) (by decide), F1.i rfl, rfl, rfl⟩⟩
  rw [h19] at c
  exact absurd rfl c
theorem lst_fr {n st dg ln sd ar fr st' dg' ln' sd' ar' fr' : Nat} {wp wp' : Bool} {il il' : Nat → Bool} {sk sk' : Nat → Int32} {c : Int32} (h : lst c st dg ln sd ar fr wp il sk = some (st', dg', ln', sd', ar', fr', wp', il', sk')) (hf : wp = false → fr = n) : wp' = false → fr' = n := by
  unfold lst lsk at h
  repeat' split at h
  all_goals first
    | (cases h; exact hf)
    | (cases h; intro q; cases q)
    | cases h
theorem LO_fr {n : Nat} {tx : Nat → Int32} {big : Bool} {st' dg' ln' sd' ar' fr' : Nat} {wp' : Bool} {il' : Nat → Bool} {sk' : Nat → Int32} : ∀ (k p st dg ln sd ar fr : Nat) (wp : Bool) (il : Nat → Bool) (sk : Nat → Int32), (wp = false → fr = n) → LO tx big k p (st, dg, ln, sd, ar, fr, wp, il, sk) = .inr (st', dg', ln', sd', ar', fr', wp', il', sk') → wp' = false → fr' = n := by
  intro k
  induction k with
  | zero =>
    intro p st dg ln sd ar fr wp il sk hf h
    by_cases c : big = false ∧ lEnd st dg ar
    · rw [LO_e c] at h; cases h; exact hf
    · rw [LO_n c] at h; cases h
  | succ k ih =>
    intro p st dg ln sd ar fr wp il sk hf h
    cases hl : lst (tx p) st dg ln sd ar fr wp il sk with
    | none => rw [LO_f hl] at h; cases h
    | some L =>
      obtain ⟨a1, a2, a3, a4, a5, a6, a7, a8, a9⟩ := L
      rw [LO_s hl] at h
      exact ih _ _ _ _ _ _ _ _ _ _ (lst_fr hl hf) h
/-- from K to K' over a league that was taken -/
def LGH (K K' : Wm → Prop) : Prop := ∀ (m m1 m2 : Wm) (n st dg ln sd ar fr : Nat) (wp : Bool) (il : Nat → Bool) (sk : Nat → Int32), InvK K m → m.1 3 3 = nI n → n ≤ 8 → WT m1 → WT m2 → Fx (RS [0, 3, 4, 7, 8, 13, 41, 42, 44, 53]) m m1 → Fx (RS [20, 21, 22, 23, 24, 25, 27, 29, 39, 45, 46, 52]) m1 m2 → (wp = false → fr = n) → lcV st dg sd ar fr wp → lgC m False (st, dg, ln, sd, ar, fr, wp, il, sk) m1 → lgE m1 ln sd ar fr wp il sk m2 → m2.1 3 3 = nI sd → K' m2
set_option maxHeartbeats 1000000 in
theorem os_league (hK : KD K K') (hL0 : LGH K K') : Both ad d μX11_league μX12_league [] (InvK K) (InvK K') := fun m I => by
  have IK := I
  obtain ⟨w, I0, kK⟩ := I
  have I1 := I0
  obtain ⟨h1, h2, h3, h4, h5⟩ := I0
  obtain ⟨n, en, -, -, n8, -⟩ := w.nat (a := 3) (k := 3) rfl (by decide)
  obtain ⟨a0, ea, -, a1, a4, -⟩ := w.nat (a := 187) (k := 0) rfl (by decide)
  obtain ⟨t, et, -, -, t80, -⟩ := w.nat (a := 1) (k := 1) rfl (by decide)
  have ht14 : m.1 187 14 = nI t := h2.1.symm.trans et
  have hsd : m.1 187 1 = nI n := h3.symm.trans en
  have har : m.1 3 4 = nI a0 := h4.trans ea
  by_cases ht0 : t = 0
  · subst ht0
    refine v_X11_league (d := d + 299) ⟨fun c => absurd et c, fun _ => ⟨0, rfl, (e_leagueM0 (d := d + 295) w ht14).to ?_⟩⟩
    rintro r m2 ⟨w2, f2, rfl, k14⟩
    have e11 : m2.1 1 1 = nI 0 := (f2.at (a := 1) (k := 1) (by decide)).trans et
    exact ⟨rfl, w2, ⟨h1.fx f2 rfl, TXI.zero (by rw [e11]; rfl) (by rw [k14]; rfl), IV.sd I1 (Fx.rf (S := RS [])) f2 rfl rfl⟩, hK (Fx.rf (S := RS [])) f2 kK rfl rfl⟩
  · refine (e_leagueC (d := d + 295) (HZ := False) (il0 := fun _ => false) (sk0 := m.1 22) w en (by omega) har (by omega) (by omega) et (by omega) ht0 (fun _ _ => rfl) (fun z => z.elim)).to ?_
    rintro r m1 ⟨w1, f1, g2, hq, hL⟩
    have g195 : m1.1 195 = m.1 195 := funext fun k => f1.at (nRS (ρ := 21) rfl rfl)
    have eO : LO (m.1 2) (decide (76 < t)) (minT t 76) 0 (0, 0, 0, n, a0, n, false, (fun _ => false), m.1 22) = LO (m1.1 195) (decide (76 < t)) (minT t 76) 0 (0, 0, 0, n, a0, n, false, (fun _ => false), m.1 22) := by
      rw [g195]
      refine LO_ch (fun j hj => h2.2 j ?_)
      have : minT t 76 ≤ t := by unfold minT; split <;> omega
      rw [et, nI_toInt (by omega)]
      omega
    rw [eO] at hq hL
    have k1 : m1.1 187 1 = nI n := (f1.at (a := 187) (k := 1) (nRS (ρ := 23) rfl rfl)).trans hsd
    have k0 : m1.1 187 0 = nI a0 := (f1.at (a := 187) (k := 0) (nRS (ρ := 23) rfl rfl)).trans ea
    have k14 : m1.1 187 14 = nI t := (f1.at (a := 187) (k := 14) (nRS (ρ := 21) rfl rfl)).trans ht14
    have hM := e_leagueM (ad := ad) (d := d + 295) w1 k1 (by omega) k0 (by omega) (by omega) k14 ht0 (by omega) (fun _ => false) (m.1 22)
    have hFr : ∀ st dg ln sd ar fr wp il sk, LO (m1.1 195) (decide (76 < t)) (minT t 76) 0 (0, 0, 0, n, a0, n, false, (fun _ => false), m.1 22) = .inr (st, dg, ln, sd, ar, fr, wp, il, sk) → wp = false → fr = n := fun _ _ _ _ _ _ _ _ _ h => LO_fr (n := n) _ _ _ _ _ _ _ _ _ _ _ (fun _ => rfl) h
    generalize LO (m1.1 195) (decide (76 < t)) (minT t 76) 0 (0, 0, 0, n, a0, n, false, (fun _ => false), m.1 22) = O at hq hL hM hFr
    cases O with
    | inl q =>
      obtain ⟨rfl, z11, F1⟩ := hq q rfl
      refine ⟨_, rfl, hM.to ?_⟩
      rintro r m2 ⟨⟨w2, f2, -, z14, -⟩, hq2, -⟩
      obtain ⟨rfl, F2⟩ := hq2 q rfl
      have e11 : m2.1 1 1 = 0 := (f2.at (a := 1) (k := 1) (nRS (ρ := 0) rfl rfl)).trans z11
      exact ⟨rfl, w2, ⟨(h1.fx F1 rfl).fx F2 rfl, TXI.zero (by rw [e11]; rfl) z14, IV.sd I1 F1 F2 rfl rfl⟩, hK F1 F2 kK rfl rfl⟩
    | inr L =>
      obtain ⟨st, dg, ln, sd, ar, fr, wp, il, sk⟩ := L
      have hL1 := hL st dg ln sd ar fr wp il sk rfl
      have hF := hFr st dg ln sd ar fr wp il sk rfl
      have hL2 := hL1.2.2
      obtain ⟨rfl, V, c1, c2, c3, c4, c5, c6, -⟩ := hL1
      refine ⟨_, rfl, hM.to ?_⟩
      rintro r m2 ⟨⟨w2, f2, -, z14, -⟩, -, hE⟩
      have hE1 := (hE st dg ln sd ar fr wp il sk rfl).2
      obtain ⟨rfl, b1, b2, b3, b4, b5, -⟩ := hE st dg ln sd ar fr wp il sk rfl
      have e11 : m2.1 1 1 = 0 := (f2.at (a := 1) (k := 1) (nRS (ρ := 0) rfl rfl)).trans c3
      have e33 : m2.1 3 3 = nI sd := (f2.at (a := 3) (k := 3) (nRS (ρ := 41) rfl rfl)).trans c1
      have e34 : m2.1 3 4 = nI ar := (f2.at (a := 3) (k := 4) (nRS (ρ := 41) rfl rfl)).trans c2
      have e15 : m2.1 0 15 = m1.1 0 15 := f2.at (a := 0) (k := 15) (nRS (ρ := 8) rfl rfl)
      have q10 : m1.1 187 10 = m.1 187 10 := f1.at (a := 187) (k := 10) (nRS (ρ := 25) rfl rfl)
      have q11 : m1.1 187 11 = m.1 187 11 := f1.at (a := 187) (k := 11) (nRS (ρ := 25) rfl rfl)
      have q52 : m1.1 187 52 = m.1 187 52 := f1.at (a := 187) (k := 52) (nRS (ρ := 39) rfl rfl)
      refine ⟨rfl, w2, ⟨?_, TXI.zero (by rw [e11]; rfl) z14, e33.trans b1.symm, e34.trans b2.symm, ?_⟩, hL0 m m1 m2 n st dg ln sd ar fr wp il sk IK en (by omega) w1 w2 f1 f2 hF V hL2 hE1 e33⟩
      · unfold RG
        cases wp with
        | true => left; have b5' : m2.1 187 10 = 0 ∧ m2.1 187 11 = 0 ∧ _ := b5; rw [b5'.2.1]; rfl
        | false => have b5' : m2.1 187 10 = m1.1 187 10 ∧ m2.1 187 11 = m1.1 187 11 ∧ _ := b5; rw [b5'.1, b5'.2.1, q10, q11]; exact h1
      · cases wp with
        | true =>
          have b5' : _ ∧ _ ∧ _ ∧ m2.1 187 52 = 0 := b5
          have c6' : _ ∧ m1.1 0 15 = 0 ∧ _ := c6
          rw [e15, c6'.2.1, b5'.2.2.2]
        | false =>
          have b5' : _ ∧ _ ∧ _ ∧ m2.1 187 52 = m1.1 187 52 := b5
          have c6' : _ ∧ m1.1 0 15 = m.1 0 15 ∧ _ := c6
          rw [e15, c6'.2.1, b5'.2.2.2, q52]
          exact h5
end OPA
