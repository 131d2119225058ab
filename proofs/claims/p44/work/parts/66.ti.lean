/-! TWO CONTRACTS OF ONE CALL HOLD TOGETHER: A RUN HAS ONE END -/
section KJ
variable {ad : Nat → Nat} {d : Nat}
theorem kj_len {t : State} {below : List Frame} {v : Option Value} (h : Ended t below (.returned v)) : t.frames.length = below.length := by
  cases below with
  | nil => exact congrArg List.length h.2
  | cons f r =>
    cases f
    case java g =>
      obtain ⟨_, _, _, _, _, h⟩ := h
      rw [h]; rfl
    case native g =>
      have h' : t.frames = _ := h
      rw [h']; rfl
    case proc g =>
      have h' : t.frames = _ := h
      rw [h']; rfl
    all_goals exact congrArg List.length h.2
theorem kj_no {t : State} {below : List Frame} {v : Option Value} (h : Ended t below (.returned v)) (w : Within t below) : False := by
  obtain ⟨ab, e, ne, -⟩ := w
  have h1 := kj_len h
  rw [e, List.length_append] at h1
  exact ne (List.eq_nil_of_length_eq_zero (by omega))
theorem kj_tl {v w : Option Value} {l : List Value} (h : v.toList ++ l = w.toList ++ l) : v = w := by
  have h1 := List.append_cancel_right h
  cases v <;> cases w <;> simp_all
theorem kj_inj {t : State} {below : List Frame} {v w : Option Value} (h : Ended t below (.returned v)) (h' : Ended t below (.returned w)) : v = w := by
  cases below with
  | nil => rw [h.1, h'.1]
  | cons f r =>
    cases f
    case java g =>
      obtain ⟨c1, i1, l1, a1, b1, h⟩ := h
      obtain ⟨c2, i2, l2, a2, b2, h'⟩ := h'
      rw [h] at h'
      have e := (List.cons.inj h').1
      injection e with e
      exact kj_tl (congrArg JFrame.stack e)
    case native g =>
      have h1 : t.frames = _ := h
      have h2 : t.frames = _ := h'
      rw [h1] at h2
      have e := (List.cons.inj h2).1
      injection e with e
      have e2 : some (Outcome.returned v) = some (Outcome.returned w) := congrArg NFrame.answer e
      injection e2 with e2
      injection e2
    case proc g =>
      have h1 : t.frames = _ := h
      have h2 : t.frames = _ := h'
      rw [h1] at h2
      have e := (List.cons.inj h2).1
      injection e with e
      have e2 : some (Outcome.returned v) = some (Outcome.returned w) := congrArg PFrame.answer e
      injection e2 with e2
      injection e2
    all_goals rw [h.1, h'.1]
/-- two worlds that the same heaps show -/
def kjS (ad : Nat → Nat) (m m' : Wm) : Prop := ∀ (G : va_G) (cA : Nat → ClassId) (H : Heap), va_P G vwCl (cellsOf LAY ad cA m) H → va_P G vwCl (cellsOf LAY ad cA m') H
theorem kj_cls (c c' : ClassId) (x : vp_A) : vp_cell c' x = { vp_cell c x with cls := c' } := by
  unfold vp_cell
  split <;> rfl
theorem kj_S {m m' : Wm} {G : va_G} {cA : Nat → ClassId} {H : Heap} (h : va_P G vwCl (cellsOf LAY ad cA m) H) (h' : va_P G vwCl (cellsOf LAY ad cA m') H) : kjS ad m m' := by
  intro G2 cA2 H2 q k p hk
  obtain ⟨ep, en, hl⟩ := cells_adr hk
  rw [cells_at hl] at hk
  obtain rfl := Option.some.inj hk
  have a1 := h k _ (cells_at hl)
  have a2 := h' k _ (cells_at hl)
  have a3 := q k _ (cells_at hl)
  cases en with
  | inl o =>
    obtain ⟨r1, hr1, c1, hc1, -, -, hs1⟩ := a1
    obtain ⟨r2, hr2, c2, hc2, -, -, hs2⟩ := a2
    obtain ⟨r3, hr3, hob⟩ := a3
    obtain rfl : r1 = r2 := Option.some.inj (hr1.symm.trans hr2)
    obtain rfl : r1 = r3 := Option.some.inj (hr1.symm.trans hr3)
    obtain rfl : c1 = c2 := Option.some.inj (hc1.symm.trans hc2)
    exact ⟨r1, hr1, hob.to (fun j hj => Option.some.inj ((hs1 j hj).symm.trans (hs2 j hj)))⟩
  | inr r =>
    have e1 : vp_cell (cA r.1) (arrV' ad m k r.1 r.2) = vp_cell (cA r.1) (arrV' ad m' k r.1 r.2) := Option.some.inj (Eq.trans (Eq.symm a1) a2)
    have e2 : vp_cell (cA2 r.1) (arrV' ad m k r.1 r.2) = vp_cell (cA2 r.1) (arrV' ad m' k r.1 r.2) := by
      rw [kj_cls (cA r.1) (cA2 r.1) (arrV' ad m k r.1 r.2), kj_cls (cA r.1) (cA2 r.1) (arrV' ad m' k r.1 r.2), e1]
    exact Eq.trans a3 (congrArg some e2)
theorem kj_sim {m m' : Wm} {μ : MI} {as : List Value} {Q : Option Value → Wm → Prop} (s : kjS ad m' m) (h : Ct ad μ d as m Q) : Ct ad μ d as m' Q := by
  intro l G cA sz p e ha hc hk s1 mt args' below hf happ hP hK
  have hA : va_A (cellsOf LAY ad cA m') sz = va_A (cellsOf LAY ad cA m) sz := funext fun q => propext ⟨cells_A, cells_A⟩
  obtain ⟨rfl, hsz, hp, hk2, hD, hN⟩ := hP
  obtain ⟨t, o, h1, h2, h3, h4, h5⟩ := h l G cA sz p e ha hc hk s1 mt _ below hf happ ⟨rfl, hsz, s G cA _ hp, hk2, cells_D hD, hN⟩ hK
  rw [← hA] at h4 h5
  exact ⟨t, o, h1, h2, h3, h4, h5⟩
theorem kj_int {m m' : Wm} {a k ci : Nat} {cs : List Nat} {r : vw_C} {G : va_G} {cA : Nat → ClassId} {H : Heap} (hl : LAY[a]? = some (.inl (ci, cs))) (hr : vwCl[ci]? = some r) (hk : k < r.2.2) (hc : cs[k]? = some 0) (h : va_P G vwCl (cellsOf LAY ad cA m) H) (h' : va_P G vwCl (cellsOf LAY ad cA m') H) : m.1 a k = m'.1 a k := by
  obtain ⟨r1, hr1, c1, hc1, -, -, hs1⟩ := h a _ (cells_at hl)
  obtain ⟨r2, hr2, c2, hc2, -, -, hs2⟩ := h' a _ (cells_at hl)
  obtain rfl : r1 = r := Option.some.inj (hr1.symm.trans hr)
  obtain rfl : r1 = r2 := Option.some.inj (hr1.symm.trans hr2)
  obtain rfl : c1 = c2 := Option.some.inj (hc1.symm.trans hc2)
  have e := Option.some.inj ((hs1 k hk).symm.trans (hs2 k hk))
  have e1 : ∀ q : Wm, vp_V (fldVs ad q a cs) k = .int (q.1 a k) := fun q => by
    unfold vp_V
    rw [List.getD_eq_getElem?_getD, fldVs_at hc]
    rfl
  have e2 : Value.int (m.1 a k) = .int (m'.1 a k) := (e1 m).symm.trans (e.trans (e1 m'))
  injection e2
/-- the number of the ROW is the same in both worlds -/
def kjE (m m' : Wm) : Prop := m.1 0 18 = m'.1 0 18 ∧ m.1 187 16 = m'.1 187 16
theorem kj_E {m m' : Wm} {G : va_G} {cA : Nat → ClassId} {H : Heap} (h : va_P G vwCl (cellsOf LAY ad cA m) H) (h' : va_P G vwCl (cellsOf LAY ad cA m') H) : kjE m m' := ⟨kj_int ly_0 (r := (RX11, TX11, 19)) rfl (by decide) rfl h h', kj_int ly_187 (r := (RX12, TX12, 57)) rfl (by decide) rfl h h'⟩
theorem kj_and {m : Wm} {μ : MI} {as : List Value} {Q1 Q2 : Option Value → Wm → Prop} (h1 : Ct ad μ d as m Q1) (h2 : Ct ad μ d as m Q2) : Ct ad μ d as m (fun r m' => Q2 r m' ∧ ∃ m1, Q1 r m1 ∧ kjS ad m' m1 ∧ kjE m1 m') := by
  intro l G cA sz p e ha hc hk s1 mt args' below hf happ hP hK
  obtain ⟨n1, o1, a1, b1, c1, ⟨⟨v1, m1, e1, q1, P1⟩, f1⟩, g1⟩ := h1 l G cA sz p e ha hc hk s1 mt args' below hf happ hP hK
  obtain ⟨n2, o2, a2, b2, c2, ⟨⟨v2, m2, e2, q2, P2⟩, f2⟩, g2⟩ := h2 l G cA sz p e ha hc hk s1 mt args' below hf happ hP hK
  subst e1 e2
  have hn : n1 = n2 := by
    rcases Nat.lt_trichotomy n1 n2 with h | h | h
    · exact (kj_no c1 (a2 _ h)).elim
    · exact h
    · exact (kj_no c2 (a1 _ h)).elim
  subst hn
  obtain rfl := kj_inj c1 c2
  exact ⟨n1, _, a2, b2, c2, ⟨⟨v1, m2, rfl, ⟨q2, m1, q1, kj_S P2 P1, kj_E P1 P2⟩, P2⟩, f2⟩, g2⟩
/-- the number of the ROW is one -/
def RoC (m : Wm) : Prop := (m.1 0 18).toInt = (m.1 187 16).toInt
variable {μ μ' : MI} {as : List Value} {I J I2 J2 : Wm → Prop}
theorem kj_both {P1 : Wm → Int32 → Wm → Prop} {P2 : Wm → Int32 → Wm → Int32 → Wm → Prop} (og : Both ad d μ μ' as I J)
    (h1 : ∀ m, I m → Ct ad μ (d + 300) (.ref (ad 0) :: as) m (fun r m1 => ∃ v : Int32, r = some (.int v) ∧ P1 m v m1))
    (h2 : ∀ m v m1, I m → P1 m v m1 → Ct ad μ' (d + 300) (.ref (ad 187) :: as) m1 (fun r m2 => ∃ w : Int32, r = some (.int w) ∧ P2 m v m1 w m2))
    (h3 : ∀ m v m1 m2, I m → RoC m → P1 m v m1 → P2 m v m1 v m2 → RoC m2) : Both ad d μ μ' as (fun m => I m ∧ RoC m) (fun m => J m ∧ RoC m) := by
  rintro m ⟨hI, hR⟩
  refine (kj_and (og m hI) (h1 m hI)).to ?_
  rintro _ m1 ⟨⟨v, rfl, p1⟩, m1', ⟨v', ev, c2⟩, s1, -⟩
  have e1 : v' = v := by
    injection Option.some.inj ev with e
    exact e.symm
  subst e1
  refine ⟨v', rfl, (kj_and (h2 m v' m1 hI p1) (kj_sim s1 c2)).to ?_⟩
  rintro _ m2 ⟨⟨rfl, hJ⟩, m2', ⟨w, ew, p2⟩, -, E1, E2⟩
  have e2 : v' = w := by
    injection Option.some.inj ew
  subst e2
  have := h3 m v' m1 m2' hI hR p1 p2
  unfold RoC at this ⊢
  rw [E1, E2] at this
  exact ⟨rfl, hJ, this⟩
theorem kj_str (og : BothW ad d μ μ' as I J) (st : Both ad d μ μ' as I2 J2) (hi : ∀ m, I m → I2 m) : Both ad d μ μ' as I J := by
  intro m hI
  refine (kj_and (st m (hi m hI)) (og m hI)).to ?_
  rintro _ m1 ⟨⟨⟨v, rfl⟩, c2⟩, m1', ⟨v', ev, c2'⟩, s1, -⟩
  have e1 : v' = v := by
    injection Option.some.inj ev with e
    exact e.symm
  subst e1
  refine ⟨v', rfl, (kj_and (kj_sim s1 c2') c2).to ?_⟩
  rintro _ m2 ⟨⟨⟨w, rfl⟩, hJ⟩, m2', ⟨ew, -⟩, -⟩
  exact ⟨ew, hJ⟩
end KJ
