/-! WHAT STANDS BETWEEN TWO CALLS, AND THE CALLS THAT READ THE TEXT -/
def IL : List Nat := [0, 8, 10, 21, 23, 25, 39, 41, 56, 57]
def RG (m : Wm) : Prop := (m.1 187 11).toInt = 0 ∨ 1 ≤ (m.1 187 10).toInt
/-- what was seen, on both sides -/
def SeR (m : Wm) : Prop := ∀ i : Nat, (i : Int) < (m.1 0 15).toInt → ∃ a b : Nat, (a : Int) < (m.1 3 3).toInt ∧ (b : Int) < (m.1 3 3).toInt ∧ m.1 146 i = nI a ∧ m.1 147 i = nI b ∧ m.1 213 (3 * i) = nI a ∧ m.1 213 (3 * i + 1) = nI b ∧ m.1 213 (3 * i + 2) = m.1 148 i
/-- what the class's places must be between two searches -/
def SWc (m : Wm) (N : Nat) : Prop := N ≤ 3000 ∧ m.1 151 4 = nI N ∧ ∀ s, s < 8192 → m.1 154 s ≠ 0 → ∃ i, i < N ∧ m.1 155 i = nI s
def SWx (m : Wm) : Prop := ∃ N, SWc m N
def IV (m : Wm) : Prop := RG m ∧ TXI m ∧ m.1 3 3 = m.1 187 1 ∧ m.1 3 4 = m.1 187 0 ∧ m.1 0 15 = m.1 187 52 ∧ SeR m ∧ SWx m
/-- what stands, and K besides -/
def InvK (K : Wm → Prop) (m : Wm) : Prop := WT m ∧ IV m ∧ K m
/-- the regions that K may speak of -/
def KL : List Nat := [1, 4, 6, 7, 13, 23, 24, 25, 29, 40, 41, 42, 43, 44, 45, 46, 47, 48, 49, 52, 53, 54, 55]
/-- calls that leave KL alone lead from K to K' -/
def KD (K K' : Wm → Prop) : Prop := ∀ {S1 S2 : List Nat} {m m1 m2 : Wm}, Fx (RS S1) m m1 → Fx (RS S2) m1 m2 → K m → S1.all (fun x => !(KL.elem x)) = true → S2.all (fun x => !(KL.elem x)) = true → K' m2
/-- calls that touch A in the class and B in the model alone lead from K to K' -/
def TR (A B : List Nat) (K K' : Wm → Prop) : Prop := ∀ {m m1 m2 : Wm}, Fx (RS A) m m1 → Fx (RS B) m1 m2 → K m → K' m2
theorem TR.use {A B S1 S2 : List Nat} {K K' : Wm → Prop} {m m1 m2 : Wm} (h : TR A B K K') (f1 : Fx (RS S1) m m1) (f2 : Fx (RS S2) m1 m2) (k : K m) (e1 : (S1.all fun x => A.elem x) = true) (e2 : (S2.all fun x => B.elem x) = true) : K' m2 := h (Fx.tr Fx.rf f1 (RS_sub e1)) (Fx.tr Fx.rf f2 (RS_sub e2)) k
theorem nRS {S : List Nat} {a k ρ : Nat} (h : S.elem ρ = false) (e : rg a k = ρ) : ¬ RS S a k := fun q => by unfold RS at q; rw [e, h] at q; cases q
theorem all_ne {S L : List Nat} {ρ : Nat} (e : S.all (fun x => !(L.elem x)) = true) (h : L.elem ρ = true) : S.elem ρ = false := by
  cases hs : S.elem ρ with
  | false => rfl
  | true =>
    have h1 := List.all_eq_true.mp e ρ (List.mem_of_elem_eq_true hs)
    rw [h] at h1
    exact absurd h1 (by decide)
section OPA
variable {ad : Nat → Nat} {d : Nat} {m m' : Wm} {S : List Nat} {K K' : Wm → Prop}
theorem RG.fx (h : RG m) (f : Fx (RS S) m m') (e : S.elem 25 = false) : RG m' := by
  unfold RG
  rw [f.at (a := 187) (k := 11) (nRS e rfl), f.at (a := 187) (k := 10) (nRS e rfl)]
  exact h
theorem TXI.fx (h : TXI m) (f : Fx (RS S) m m') (e : S.elem 0 = false) (e2 : S.elem 21 = false) : TXI m' := by
  unfold TXI
  rw [f.at (a := 1) (k := 1) (nRS e rfl), f.at (a := 187) (k := 14) (nRS e2 rfl)]
  refine ⟨h.1, fun k hk => ?_⟩
  rw [f.at (a := 2) (k := k) (nRS e rfl), f.at (a := 195) (k := k) (nRS e2 rfl)]
  exact h.2 k hk
theorem TXI.zero (h1 : (m.1 1 1).toInt = 0) (h2 : (m.1 187 14).toInt = 0) : TXI m := ⟨(fa_eq _ _).mpr (by omega), fun k hk => absurd hk (by omega)⟩
theorem SeR.fx (h : SeR m) (f : Fx (RS S) m m') (e8 : S.elem 8 = false) (e41 : S.elem 41 = false) (e56 : S.elem 56 = false) (e57 : S.elem 57 = false) : SeR m' := fun i hi => by
  rw [f.at (a := 0) (k := 15) (nRS (ρ := 8) e8 rfl)] at hi
  rw [f.at (a := 3) (k := 3) (nRS (ρ := 41) e41 rfl)]
  obtain ⟨a, b, h1, h2, h3, h4, h5, h6, h7⟩ := h i hi
  exact ⟨a, b, h1, h2, (f.at (nRS (ρ := 56) e56 rfl)).trans h3, (f.at (nRS (ρ := 56) e56 rfl)).trans h4, (f.at (nRS (ρ := 57) e57 rfl)).trans h5, (f.at (nRS (ρ := 57) e57 rfl)).trans h6, (f.at (nRS (ρ := 57) e57 rfl)).trans (h7.trans (f.at (nRS (ρ := 56) e56 rfl)).symm)⟩
theorem fx_cl {a ρ : Nat} (f : Fx (RS S) m m') (h : ∀ k, rg a k = ρ) (e : S.elem ρ = false) : m'.1 a = m.1 a ∧ m'.2.1 a = m.2.1 a := ⟨funext fun k => (f a k (nRS e (h k))).1, funext fun k => (f a k (nRS e (h k))).2.1⟩
theorem SWc.fx {N : Nat} (h : SWc m N) (f : Fx (RS S) m m') (e : S.elem 10 = false) : SWc m' N := by
  obtain ⟨h1, h2, h3⟩ := h
  have q4 := (fx_cl (a := 154) (ρ := 10) f (fun _ => rfl) e).1
  have q5 := (fx_cl (a := 155) (ρ := 10) f (fun _ => rfl) e).1
  refine ⟨h1, (f.at (a := 151) (k := 4) (nRS (ρ := 10) e rfl)).trans h2, ?_⟩
  rw [q4, q5]
  exact h3
theorem SWx.fx (h : SWx m) (f : Fx (RS S) m m') (e : S.elem 10 = false) : SWx m' := by
  obtain ⟨N, h⟩ := h
  exact ⟨N, h.fx f e⟩
theorem IV.fx (h : IV m) (f : Fx (RS S) m m') (e : S.all (fun x => !(IL.elem x)) = true) : IV m' := by
  obtain ⟨h1, h2, h3, h4, h5⟩ := h
  refine ⟨h1.fx f (all_ne e rfl), h2.fx f (all_ne e rfl) (all_ne e rfl), ?_, ?_, ?_⟩
  · rw [f.at (a := 3) (k := 3) (nRS (all_ne e (ρ := 41) rfl) rfl), f.at (a := 187) (k := 1) (nRS (all_ne e (ρ := 23) rfl) rfl)]; exact h3
  · rw [f.at (a := 3) (k := 4) (nRS (all_ne e (ρ := 41) rfl) rfl), f.at (a := 187) (k := 0) (nRS (all_ne e (ρ := 23) rfl) rfl)]; exact h4
  · refine ⟨?_, h5.2.1.fx f (all_ne e rfl) (all_ne e rfl) (all_ne e rfl) (all_ne e rfl), h5.2.2.fx f (all_ne e rfl)⟩
    rw [f.at (a := 0) (k := 15) (nRS (all_ne e (ρ := 8) rfl) rfl), f.at (a := 187) (k := 52) (nRS (all_ne e (ρ := 39) rfl) rfl)]; exact h5.1
theorem IV.f2 {m1 m2 : Wm} {S1 S2 : List Nat} (h : IV m) (f1 : Fx (RS S1) m m1) (f2 : Fx (RS S2) m1 m2) (e1 : S1.all (fun x => !(IL.elem x)) = true) (e2 : S2.all (fun x => !(IL.elem x)) = true) : IV m2 := (h.fx f1 e1).fx f2 e2
/-- the same numbers, without the text and the games -/
theorem IV.sd {m1 m2 : Wm} {S1 S2 : List Nat} (h : IV m) (f1 : Fx (RS S1) m m1) (f2 : Fx (RS S2) m1 m2) (e1 : S1.all (fun x => !(([8, 10, 23, 39, 41, 56, 57] : List Nat).elem x)) = true) (e2 : S2.all (fun x => !(([8, 10, 23, 39, 41, 56, 57] : List Nat).elem x)) = true) : m2.1 3 3 = m2.1 187 1 ∧ m2.1 3 4 = m2.1 187 0 ∧ m2.1 0 15 = m2.1 187 52 ∧ SeR m2 ∧ SWx m2 := by
  obtain ⟨-, -, h3, h4, h5⟩ := h
  refine ⟨?_, ?_, ?_⟩
  · rw [f2.at (a := 3) (k := 3) (nRS (all_ne e2 (ρ := 41) rfl) rfl), f2.at (a := 187) (k := 1) (nRS (all_ne e2 (ρ := 23) rfl) rfl), f1.at (a := 3) (k := 3) (nRS (all_ne e1 (ρ := 41) rfl) rfl), f1.at (a := 187) (k := 1) (nRS (all_ne e1 (ρ := 23) rfl) rfl)]; exact h3
  · rw [f2.at (a := 3) (k := 4) (nRS (all_ne e2 (ρ := 41) rfl) rfl), f2.at (a := 187) (k := 0) (nRS (all_ne e2 (ρ := 23) rfl) rfl), f1.at (a := 3) (k := 4) (nRS (all_ne e1 (ρ := 41) rfl) rfl), f1.at (a := 187) (k := 0) (nRS (all_ne e1 (ρ := 23) rfl) rfl)]; exact h4
  · refine ⟨?_, (h5.2.1.fx f1 (all_ne e1 rfl) (all_ne e1 rfl) (all_ne e1 rfl) (all_ne e1 rfl)).fx f2 (all_ne e2 rfl) (all_ne e2 rfl) (all_ne e2 rfl) (all_ne e2 rfl), (h5.2.2.fx f1 (all_ne e1 rfl)).fx f2 (all_ne e2 rfl)⟩
    rw [f2.at (a := 0) (k := 15) (nRS (all_ne e2 (ρ := 8) rfl) rfl), f2.at (a := 187) (k := 52) (nRS (all_ne e2 (ρ := 39) rfl) rfl), f1.at (a := 0) (k := 15) (nRS (all_ne e1 (ρ := 8) rfl) rfl), f1.at (a := 187) (k := 52) (nRS (all_ne e1 (ρ := 39) rfl) rfl)]; exact h5.1
def Both (ad : Nat → Nat) (d : Nat) (μ μ' : MI) (as : List Value) (I J : Wm → Prop) : Prop := ∀ m, I m → Ct ad μ (d + 300) (.ref (ad 0) :: as) m (fun r m1 => ∃ v : Int32, r = some (.int v) ∧ Ct ad μ' (d + 300) (.ref (ad 187) :: as) m1 (fun r m2 => r = some (.int v) ∧ J m2))
def BothW (ad : Nat → Nat) (d : Nat) (μ μ' : MI) (as : List Value) (I J : Wm → Prop) : Prop := ∀ m, I m → Ct ad μ (d + 300) (.ref (ad 0) :: as) m (fun r m1 => (∃ v : Int32, r = some (.int v)) ∧ Ct ad μ' (d + 300) (.ref (ad 187) :: as) m1 (fun r m2 => (∃ w : Int32, r = some (.int w)) ∧ J m2))
theorem Both.w {μ μ' : MI} {as : List Value} {I J : Wm → Prop} (h : Both ad d μ μ' as I J) : BothW ad d μ μ' as I J := fun m hI => (h m hI).to (fun r m1 h => by
  obtain ⟨v, rfl, h2⟩ := h
  exact ⟨⟨v, rfl⟩, h2.to (fun r m2 h => ⟨⟨v, h.1⟩, h.2⟩)⟩)
theorem os_sign (hK : KD K K') (a : Int32) : Both ad d μX11_sign μX12_sign [.int a] (InvK K) (InvK K') := fun m I => by
  obtain ⟨w, ⟨h1, h2, h3⟩, k0⟩ := I
  refine (sign_both (d := d + 299) w h2).to ?_
  rintro r m1 ⟨v, rfl, w1, f1, k⟩
  refine ⟨v, rfl, k.to ?_⟩
  rintro r m2 ⟨rfl, w2, f2, T2⟩
  exact ⟨rfl, w2, ⟨(h1.fx f1 rfl).fx f2 rfl, T2, IV.sd ⟨h1, h2, h3⟩ f1 f2 rfl rfl⟩, hK f1 f2 k0 rfl rfl⟩
theorem e_endC {x : Int32} (w : WT m) : Ct ad μX11_end (d + 1) [.ref (ad 0), .int x] m (fun r m' => WT m' ∧ ((0 ≤ x.toInt ∧ x.toInt ≤ (m.1 1 1).toInt ∧ r = some (.int 1) ∧ m' = uI m 1 1 x) ∨ (¬ (0 ≤ x.toInt ∧ x.toInt ≤ (m.1 1 1).toInt) ∧ r = some (.int 0) ∧ m' = m))) := by
  have t := w.at (a := 1) (k := 1) rfl
  refine v_X11_end (v_X10_cut ⟨fun c => ⟨0, rfl, bz_0, w, Or.inr ⟨?_, rfl, rfl⟩⟩, fun c => ⟨fun c2 => ⟨1, rfl, bz_1, ?_, Or.inl ⟨?_, ?_, rfl, rfl⟩⟩, fun c2 => ⟨0, rfl, bz_0, w, Or.inr ⟨?_, rfl, rfl⟩⟩⟩⟩)
  · have := y_ltr (n := 0) rfl c; omega
  · exact w.t rfl (y_nltr (n := 0) rfl c) (by have := z_le c2; omega)
  · exact y_nltr (n := 0) rfl c
  · exact z_le c2
  · have := z_nle c2; omega
theorem e_endM {x : Int32} (w : WT m) : Ct ad μX12_end (d + 1) [.ref (ad 187), .int x] m (fun r m' => WT m' ∧ Fx (RS [20, 21]) m m' ∧ (∀ k, m'.1 195 k = m.1 195 k) ∧ ((0 ≤ x.toInt ∧ x.toInt ≤ (m.1 187 14).toInt ∧ r = some (.int 1) ∧ m'.1 187 14 = x) ∨ (¬ (0 ≤ x.toInt ∧ x.toInt ≤ (m.1 187 14).toInt) ∧ r = some (.int 0) ∧ m'.1 187 14 = m.1 187 14))) := by
  have t := w.at (a := 187) (k := 14) rfl
  have z0 : (0 : Int32).toInt = 0 := rfl
  refine v_X12_end ((in_i (lo := 0) (hi := m.1 187 14) rfl rfl).to ?_)
  rintro _ m' ⟨eq, rfl⟩
  obtain rfl := eq.symm
  by_cases hc : 0 ≤ x ∧ x ≤ m.1 187 14
  · have c1 := z_le hc.1
    have c2 := z_le hc.2
    exact ⟨1, by rw [if_pos hc], fun _ => ⟨(w.n rfl).t rfl (by omega) (by omega), ((Fx.rf (S := RS [20, 21])).i rfl).i rfl, fun _ => rfl, Or.inl ⟨by omega, c2, rfl, rfl⟩⟩, fun z => absurd z (by decide)⟩
  · refine ⟨0, by rw [if_neg hc], fun z => absurd rfl z, fun _ => ⟨w.n rfl, Fx.rf.i rfl, fun _ => rfl, Or.inr ⟨fun q => hc ⟨(fa_le _ _).mpr (by omega), (fa_le _ _).mpr q.2⟩, rfl, rfl⟩⟩⟩
theorem os_end (hK : KD K K') (a : Int32) : Both ad d μX11_end μX12_end [.int a] (InvK K) (InvK K') := fun m I => by
  obtain ⟨w, ⟨h1, h2, h3⟩, k0⟩ := I
  have t1 : (m.1 1 1).toInt = (m.1 187 14).toInt := congrArg _ h2.1
  refine (e_endC (d := d + 299) w).to ?_
  rintro r m1 ⟨w1, h⟩
  rcases h with ⟨a1, a2, rfl, e⟩ | ⟨a1, rfl, e⟩
  · subst e
    have f1 : Fx (RS [0]) m (uI m 1 1 a) := Fx.rf.i rfl
    refine ⟨1, rfl, (e_endM (d := d + 299) w1).to ?_⟩
    rintro r m2 ⟨w2, f2, g, b⟩
    have e14 : (uI m 1 1 a).1 187 14 = m.1 187 14 := rfl
    rw [e14] at b
    rcases b with ⟨b1, b2, rfl, b3⟩ | ⟨b1, -⟩
    · have e11 : m2.1 1 1 = a := f2.at (a := 1) (k := 1) (by decide)
      refine ⟨rfl, w2, ⟨(h1.fx f1 rfl).fx f2 rfl, ⟨e11.trans b3.symm, fun k hk => ?_⟩, IV.sd ⟨h1, h2, h3⟩ f1 f2 rfl rfl⟩, hK f1 f2 k0 rfl rfl⟩
      rw [e11] at hk
      rw [f2.at (a := 2) (k := k) (nRS (ρ := 0) rfl rfl), g k]
      exact h2.2 k (by omega)
    · omega
  · subst e
    refine ⟨0, rfl, (e_endM (d := d + 299) w1).to ?_⟩
    rintro r m2 ⟨w2, f2, g, b⟩
    rcases b with ⟨b1, b2, -⟩ | ⟨b1, rfl, b3⟩
    · omega
    · have e11 : m2.1 1 1 = m1.1 1 1 := f2.at (a := 1) (k := 1) (by decide)
      refine ⟨rfl, w2, ⟨h1.fx f2 rfl, ⟨by rw [e11, b3]; exact h2.1, fun k hk => ?_⟩, IV.sd ⟨h1, h2, h3⟩ (Fx.rf (S := RS [])) f2 rfl rfl⟩, hK (Fx.rf (S := RS [])) f2 k0 rfl rfl⟩
      rw [e11] at hk
      rw [f2.at (a := 2) (k := k) (nRS (ρ := 0) rfl rfl), g k]
      exact h2.2 k hk
/-- the model's league() of an empty text -/
theorem e_leagueM0 (w : WT m) (ht : m.1 187 14 = 0) : Ct ad μX12_league (d + 5) [.ref (ad 187)] m (fun r m' => WT m' ∧ Fx (RS [20, 21, 22]) m m' ∧ r = some (.int 0) ∧ m'.1 187 14 = 0) := by
  have w0 : WT (uI m 187 17 0) := w.n rfl
  refine v_X12_league (d := d + 4) ((begin_ok (na := 80) rfl).to ?_)
  rintro _ m1 ⟨rfl, e1⟩
  have e1' : m1 = bgM (uI m 187 17 0) 195 (nI 0) (nI 76) := by rw [e1]; show bgM _ _ (m.1 187 14) _ = _; rw [ht]; rfl
  subst e1'
  clear e1
  have f1 : Fx (RS [22]) (uI m 187 17 0) (bgM (uI m 187 17 0) 195 (nI 0) (nI 76)) := bg_fx
  have P1 : PS 195 0 76 0 ((uI m 187 17 0).1 195) 0 (-1) (bgM (uI m 187 17 0) 195 (nI 0) (nI 76)) := bg_ps (by decide) (by decide)
  have w1 := w0.fx f1
  have F1 : Fx (RS [20, 21, 22]) m (bgM (uI m 187 17 0) 195 (nI 0) (nI 76)) := ((Fx.rf (S := RS [20, 21, 22]) (m := m)).i (a := 187) (k := 17) (v := 0) rfl).tr f1 (RS_sub rfl)
  generalize bgM (uI m 187 17 0) 195 (nI 0) (nI 76) = mb at f1 P1 w1 F1 ⊢
  have h19 : (uI mb 187 14 0).1 187 19 = nI 0 := P1.2.1
  refine ⟨rfl, fun c => ?_, fun _ => ⟨w1.t rfl (by decide) (by decide), F1.i rfl, rfl, rfl⟩⟩
  rw [h19] at c
  exact absurd rfl c
theorem lst_fr {n st dg ln sd ar fr st' dg' ln' sd' ar' fr' : Nat} {wp wp' : Bool} {il il' : Nat → Bool} {sk sk' : Nat → Int32} {c : Int32} (h : lst c st dg ln sd ar fr wp il sk = some (st', dg', ln', sd', ar', fr', wp', il', sk')) (hf : wp = false → fr = n) : wp' = false → fr' = n := by
  unfold lst lsk at h
  repeat' split at h
  all_goals first
    | (cases h; exact hf)
    | (cases h; intro q; cases q)
    | cases h
theorem LO_fr {n : Nat} {tx : Nat → Int32} {big : Bool} {st' dg' ln' sd' ar' fr' : Nat} {wp' : Bool} {il' : Nat → Bool} {sk' : Nat → Int32} : ∀ (k p st dg ln sd ar fr : Nat) (wp : Bool) (il : Nat → Bool) (sk : Nat → Int32), (wp = false → fr = n) → LO tx big k p (st, dg, ln, sd, ar, fr, wp, il, sk) = .inr (st', dg', ln', sd', ar', fr', wp', il', sk') → wp' = false → fr' = n := by
  intro k
  induction k with
  | zero =>
    intro p st dg ln sd ar fr wp il sk hf h
    by_cases c : big = false ∧ lEnd st dg ar
    · rw [LO_e c] at h; cases h; exact hf
    · rw [LO_n c] at h; cases h
  | succ k ih =>
    intro p st dg ln sd ar fr wp il sk hf h
    cases hl : lst (tx p) st dg ln sd ar fr wp il sk with
    | none => rw [LO_f hl] at h; cases h
    | some L =>
      obtain ⟨a1, a2, a3, a4, a5, a6, a7, a8, a9⟩ := L
      rw [LO_s hl] at h
      exact ih _ _ _ _ _ _ _ _ _ _ (lst_fr hl hf) h
/-- from K to K' over a league that was taken -/
def LGH (K K' : Wm → Prop) : Prop := ∀ (m m1 m2 : Wm) (n st dg ln sd ar fr : Nat) (wp : Bool) (il : Nat → Bool) (sk : Nat → Int32), InvK K m → m.1 3 3 = nI n → n ≤ 8 → WT m1 → WT m2 → Fx (RS [0, 3, 4, 7, 8, 13, 41, 42, 44, 53]) m m1 → Fx (RS [20, 21, 22, 23, 24, 25, 27, 29, 39, 45, 46, 52]) m1 m2 → (wp = false → fr = n) → lcV st dg sd ar fr wp → lgC m False (st, dg, ln, sd, ar, fr, wp, il, sk) m1 → lgE m1 ln sd ar fr wp il sk m2 → m2.1 3 3 = nI sd → K' m2
end OPA
