/-! THE MODEL BY HAND: POWER, questions, what is told -/
theorem nf {p : Prop} (h : false = true) : p := by cases h
theorem ite_ne {c : Prop} [Decidable c] {x y z : Nat} (hx : x ≠ z) (hy : y ≠ z) : (if c then x else y) ≠ z := by
  by_cases h : c
  · rw [if_pos h]; exact hx
  · rw [if_neg h]; exact hy
theorem rg_ne22 {a k : Nat} (ha : a ≠ 187) : rg a k ≠ 22 := by
  unfold rg
  rw [if_neg ha]
  repeat' (first | decide | apply ite_ne)
theorem rg_22 {a k : Nat} (h : RS [22] a k) : rg a k = 22 := by
  have h2 := List.mem_of_elem_eq_true h
  simpa using h2
theorem TY22 {a k : Nat} (h : RS [22] a k) : TY a k = none := by
  have h1 := rg_22 h
  by_cases ha : a = 187
  · subst ha
    by_cases hk : k < 57
    · have h3 : ∀ k : Fin 57, rg 187 k.val = 22 → TY 187 k.val = none := by decide +kernel
      exact h3 ⟨k, hk⟩ h1
    · exfalso
      have h4 : rg 187 k = rgK k := rfl
      rw [h4] at h1
      unfold rgK at h1
      repeat rw [if_neg (by omega)] at h1
      cases h1
  · exact absurd h1 (rg_ne22 ha)
theorem WT.fx {m m' : Wm} (h : WT m) (f : Fx (RS [22]) m m') : WT m' := by
  refine ⟨fun a k lo hi e => ?_, ?_⟩
  · have hn : ¬ RS [22] a k := fun q => by rw [TY22 q] at e; cases e
    rw [f.at hn]
    exact h.1 a k lo hi e
  · obtain ⟨h1, h2, h3, h4, h5, h6, h7, h8⟩ := h.2
    have r : ∀ a k, a < 187 → m'.2.2 a k = m.2.2 a k := fun a k ha => (f a k (fun q => rg_ne22 (by omega) (rg_22 q))).2.2
    refine ⟨?_, ?_, ?_, ?_, fun k hk => ?_, fun k hk => ?_, fun k hk => ?_, fun k hk => ?_⟩
    · rw [r 3 1 (by decide)]; exact h1
    · rw [r 3 2 (by decide)]; exact h2
    · rw [r 0 9 (by decide)]; exact h3
    · rw [r 0 10 (by decide)]; exact h4
    · rw [r 32 k (by decide)]; exact h5 k hk
    · rw [r 133 k (by decide)]; exact h6 k hk
    · rw [r 32 k (by decide)]; exact h7 k hk
    · rw [r 133 k (by decide)]; exact h8 k hk
def clM (v : Int32) : Int32 := if -9999 < (if v < 9999 then v else 9999) then (if v < 9999 then v else 9999) else -9999
/-- POWER in the model: side s -/
def pwF (rt : Nat → Int32) (rs : Nat) (f g h : Nat → Int32) (ar s : Nat) : Int32 :=
  if rs = 0 then smF f (4 * s) ar else clM (prF rt rs (ltF f g h ar s) 164 3 0 (0, -1)).1
def pwM (m : Wm) (s : Nat) : Int32 := pwF (m.1 200) (m.1 187 27).toNatClampNeg (m.1 188) (m.1 190) (m.1 191) (m.1 187 0).toNatClampNeg s
section HND
variable {ad : Nat → Nat} {d : Nat} {m : Wm}
theorem begin_ok {a na : Nat} {x2 x3 : Int32} (ha : LAY[a]? = some (.inr (1, na))) : Ct ad μX12_begin d [.ref (ad 187), .ref (ad a), .int x2, .int x3] m (fun r m' => r = none ∧ m' = uI (uI (uI (uI (uR m 187 18 (some a)) 187 19 x2) 187 20 x3) 187 21 0) 187 22 (-1)) :=
  v_X12_begin ha ⟨rfl, rfl⟩
def bgM (m : Wm) (a : Nat) (x2 x3 : Int32) : Wm := uI (uI (uI (uI (uR m 187 18 (some a)) 187 19 x2) 187 20 x3) 187 21 0) 187 22 (-1)
theorem bg_fx {a : Nat} {x2 x3 : Int32} : Fx (RS [22]) m (bgM m a x2 x3) := ((((Fx.r (S := RS [22]) Fx.rf rfl).i rfl).i rfl).i rfl).i rfl
theorem bg_ps {a sz tp e : Nat} (he : e ≤ 80) (ha : a ≠ 187) : PS a sz tp e (m.1 a) 0 (-1) (bgM m a (nI sz) (nI tp)) :=
  ⟨rfl, rfl, rfl, rfl, rfl, Nat.zero_le _, fun k hk => by
    show (if a = 187 ∧ k = 22 then _ else if a = 187 ∧ k = 21 then _ else if a = 187 ∧ k = 20 then _ else if a = 187 ∧ k = 19 then _ else m.1 a k) = m.1 a k
    rw [if_neg (fun q => ha q.1), if_neg (fun q => ha q.1), if_neg (fun q => ha q.1), if_neg (fun q => ha q.1)]⟩
theorem fx_cell {l : List Nat} {m m' : Wm} {a ρ : Nat} (f : Fx (RS l) m m') (h : ∀ k, rg a k = ρ) (hl : l.elem ρ = false) : m'.1 a = m.1 a := by
  funext k
  refine f.at (fun q => ?_)
  unfold RS at q
  rw [h k, hl] at q
  cases q
theorem en_side {s ar : Nat} (hs : s < 8) (ha : m.1 187 0 = nI ar) (har : ar ≤ 4) (h28 : m.1 187 28 = nI s) : EN ad (ltF (m.1 188) (m.1 190) (m.1 191) ar s) m := by
  refine Or.inr ⟨fun q => m1_ne s (by omega) (q.symm.trans h28), fun m1 f c d => ?_⟩
  have e1 := fx_cell (a := 188) (ρ := 24) f (fun _ => rfl) rfl
  have e2 := fx_cell (a := 190) (ρ := 24) f (fun _ => rfl) rfl
  have e3 := fx_cell (a := 191) (ρ := 24) f (fun _ => rfl) rfl
  have h := letter_ok (ad := ad) (d := d) (m := m1) (s := s) (ar := ar) (c := c) ((f.at (by decide)).trans ha) har hs ((f.at (by decide)).trans h28)
  rw [e1, e2, e3] at h
  exact h
theorem WT.nat {m : Wm} (w : WT m) {a k : Nat} {lo hi : Int} (e : TY a k = some (lo, hi)) (h0 : 0 ≤ lo) : ∃ n : Nat, m.1 a k = nI n ∧ (m.1 a k).toNatClampNeg = n ∧ lo ≤ (n : Int) ∧ (n : Int) ≤ hi ∧ n < 2147483648 := by
  have h := w.at e
  obtain ⟨n, hn, e1⟩ := zn_of (x := m.1 a k) (by omega)
  refine ⟨n, e1, ?_, ?_, ?_, hn⟩
  · rw [e1, nI_clamp hn]
  · rw [e1, nI_toInt hn] at h; exact h.1
  · rw [e1, nI_toInt hn] at h; exact h.2
theorem power_ok (w : WT m) {s : Nat} (hs : s < 8) : Ct ad μX12_power (d + 168) [.ref (ad 187), .int (nI s)] m (fun r m' => WT m' ∧ Fx (RS [22, 28]) m m' ∧ r = some (.int (pwM m s))) := by
  obtain ⟨ar, ea, ca, a1, a2, -⟩ := w.nat (a := 187) (k := 0) rfl (by decide)
  obtain ⟨rs, er, cr, r1, r2, -⟩ := w.nat (a := 187) (k := 27) rfl (by decide)
  refine v_X12_power ⟨fun h => ?_, fun h => ?_⟩
  · have hr : rs ≠ 0 := fun q => h (by rw [er, q]; rfl)
    rw [er]
    refine (begin_ok (na := 40) rfl).to ?_
    rintro _ m1 ⟨rfl, e1⟩
    have e1' : m1 = bgM m 200 (nI rs) (nI 40) := e1
    subst e1'
    clear e1
    refine ⟨rfl, ?_⟩
    have f1 : Fx (RS [22]) m (bgM m 200 (nI rs) (nI 40)) := bg_fx
    have w1 := w.fx f1
    have w2 : WT (uI (bgM m 200 (nI rs) (nI 40)) 187 28 (nI s)) := w1.t rfl (by rw [nI_toInt (by omega)]; omega) (by rw [nI_toInt (by omega)]; omega)
    have A : PA 200 40 rs 40 rs := ⟨rfl, by omega, by decide, by omega, by decide, by decide, Nat.le_refl _, by omega, Or.inl rfl⟩
    have P : PS 200 rs 40 rs (m.1 200) 0 (-1) (uI (bgM m 200 (nI rs) (nI 40)) 187 28 (nI s)) := bg_ps (sz := rs) (tp := 40) (e := rs) (by omega) (by decide)
    have En := en_side (ad := ad) (m := uI (bgM m 200 (nI rs) (nI 40)) 187 28 (nI s)) (s := s) (ar := ar) hs ea (by omega) rfl
    refine ((rul_ok (d := d) A 164).2.2.2 0 (by decide) 0 (-1) _ P En (by omega)).to ?_
    rintro _ m2 ⟨rfl, h2, -, f2⟩
    refine ⟨_, rfl, w2.fx f2, ((Fx.tr (S := RS [22, 28]) Fx.rf f1 (RS_sub rfl)).i (a := 187) (k := 28) (v := nI s) rfl).tr f2 (RS_sub rfl), ?_⟩
    have e2 : pwM m s = clM (prF (m.1 200) rs (ltF (m.1 188) (m.1 190) (m.1 191) ar s) 164 3 0 (0, -1)).1 := by
      unfold pwM pwF
      rw [ca, cr, if_neg hr]
    rw [e2]
    rfl
  · refine (sumOf_ok ea (by omega) hs).to ?_
    rintro _ m' ⟨eq, rfl⟩
    obtain rfl := eq.symm
    refine ⟨_, rfl, w, Fx.rf, ?_⟩
    have e2 : pwM m s = smF (m.1 188) (4 * s) ar := by
      unfold pwM pwF
      have hr : rs = 0 := by
        have h1 := congrArg Int32.toInt (er.symm.trans h)
        rw [nI_toInt (by omega)] at h1
        have h2 : (0 : Int32).toInt = 0 := rfl
        omega
      rw [ca, cr, if_pos hr]
    rw [e2]
theorem s_X12_power {x1 : Int32} (w : WT m) (i1 : (0 : Int) ≤ x1.toInt) (i2 : x1.toInt ≤ (7 : Int)) : Ct ad μX12_power (d + 168) [.ref (ad 187), .int x1] m (fun r m' => WT m' ∧ Fx (RS [22, 28]) m m' ∧ ∃ v : Int32, r = some (.int v)) := by
  obtain ⟨s, hs, rfl⟩ := zn_of i1
  rw [nI_toInt hs] at i2
  refine (power_ok w (by omega)).to ?_
  rintro _ m' ⟨h1, h2, rfl⟩
  exact ⟨h1, h2, _, rfl⟩
theorem s_X12_in {x lo hi : Int32} {y2 y4 : Int64} (w : WT m) (h2 : y2 = lo.toInt64) (h4 : y4 = hi.toInt64) : Ct ad μX12_in d [.long x.toInt64, .long y2, .long y4] m (fun r m' => WT m' ∧ Fx (RS []) m m' ∧ ∃ v : Int32, r = some (.int v) ∧ (0 : Int) ≤ v.toInt ∧ v.toInt ≤ 1 ∧ ((v.toInt = 0 ∧ (x.toInt < lo.toInt ∨ hi.toInt < x.toInt)) ∨ (v.toInt = 1 ∧ lo.toInt ≤ x.toInt ∧ x.toInt ≤ hi.toInt))) := by
  refine (in_i h2 h4).to ?_
  rintro _ m' ⟨eq, rfl⟩
  obtain rfl := eq.symm
  have z0 : (0 : Int32).toInt = 0 := rfl
  have z1 : (1 : Int32).toInt = 1 := rfl
  by_cases h : lo ≤ x ∧ x ≤ hi
  · have a1 := z_le h.1
    have a2 := z_le h.2
    exact ⟨w, Fx.rf, 1, by rw [if_pos h], by omega, by omega, by omega⟩
  · refine ⟨w, Fx.rf, 0, by rw [if_neg h], by omega, by omega, ?_⟩
    by_cases h1 : lo ≤ x
    · have a2 := z_nle (fun q => h ⟨h1, q⟩)
      omega
    · have a1 := z_nle h1
      omega
end HND
