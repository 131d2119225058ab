section
/-! THE PLAN'S TEXT AS THE CLASS READS IT -/
/-- the cells of one plan -/
def PR (P b _k : Nat) : Prop := P ≤ b ∧ b ≤ P + 5
def slk (st : Nat) : Nat := if st = 0 then 0 else if st = 1 then 3 else if st = 2 then 2 else if st = 3 then 2 else 1
def PCV (p st rd gm : Nat) : Prop := st ≤ 5 ∧ 1 ≤ rd ∧ rd ≤ 13 ∧ 4 * gm ≤ p + slk st ∧ (st ≠ 0 → 1 ≤ gm) ∧ (rd = 13 → st = 0)
def PCC (P st rd gm : Nat) (us : Int32) (fi se th : Nat → Int32) (sn : Nat → Nat) (m : Wm) : Prop :=
  m.1 P 7 = nI st ∧ m.1 P 5 = nI rd ∧ m.1 P 6 = nI gm ∧ m.1 P 8 = us ∧ (∀ j, j < gm → m.1 (P + 1) j = fi j) ∧ (∀ j, j < gm → m.1 (P + 2) j = se j) ∧ (∀ j, j < gm → m.1 (P + 3) j = th j) ∧ (∀ ρ, ρ < rd → ρ < 12 → m.1 (P + 4) ρ = nI (sn ρ))
def PCT (P p : Nat) : PlS → Wm → Prop
  | (st, rd, gm, us, fi, se, th, sn), m => PCV p st rd gm ∧ PCC P st rd gm us fi se th sn m
def PCQ (m0 : Wm) (P n p : Nat) (c : Int32) (S : PlS) (r : Option Value) (m' : Wm) : Prop := WT m' ∧ Fx (PR P) m0 m' ∧ ((r = some (.int 1) ∧ ∃ S', pst n c S = some S' ∧ PCT P (p + 1) S' m') ∨ (r = some (.int 0) ∧ pst n c S = none))
section PCL
variable {ad : Nat → Nat} {d : Nat} {m m0 : Wm} {P n p rd gm : Nat} {us c : Int32} {fi se th : Nat → Int32} {sn : Nat → Nat}
theorem and1_n {y : Int32} : ¬ (y &&& 1) = 1 ↔ (y &&& 1) = 0 := by
  have h := t_and1 y
  have z1 : (1 : Int32).toInt = 1 := rfl
  have z0 : (0 : Int32).toInt = 0 := rfl
  rw [fa_eq, fa_eq, z1, z0]
  omega
theorem wP7 (hP : P = 134 ∨ P = 140) (w : WT m) {v : Int32} : WT (uI m P 7 v) := by rcases hP with rfl | rfl; exact w.n rfl; exact w.n rfl
theorem wP8 (hP : P = 134 ∨ P = 140) (w : WT m) {v : Int32} : WT (uI m P 8 v) := by rcases hP with rfl | rfl; exact w.n rfl; exact w.n rfl
theorem wP5 (hP : P = 134 ∨ P = 140) (w : WT m) {v : Nat} (h : v ≤ 13) : WT (uI m P 5 (nI v)) := by
  have e : (nI v).toInt = v := nI_toInt (by omega)
  rcases hP with rfl | rfl
  · exact w.t rfl (by omega) (by omega)
  · exact w.t rfl (by omega) (by omega)
theorem wP6 (hP : P = 134 ∨ P = 140) (w : WT m) {v : Nat} (h : v ≤ 48) : WT (uI m P 6 (nI v)) := by
  have e : (nI v).toInt = v := nI_toInt (by omega)
  rcases hP with rfl | rfl
  · exact w.t rfl (by omega) (by omega)
  · exact w.t rfl (by omega) (by omega)
theorem wPa (hP : P = 134 ∨ P = 140) (w : WT m) {k : Nat} {v : Int32} (h0 : 0 ≤ v.toInt) (h7 : v.toInt ≤ 7) : WT (uI m (P + 1) k v) := by
  rcases hP with rfl | rfl
  · exact w.t rfl h0 h7
  · exact w.t rfl h0 h7
theorem wPb (hP : P = 134 ∨ P = 140) (w : WT m) {k : Nat} {v : Int32} (h0 : 0 ≤ v.toInt) (h7 : v.toInt ≤ 7) : WT (uI m (P + 2) k v) := by
  rcases hP with rfl | rfl
  · exact w.t rfl h0 h7
  · exact w.t rfl h0 h7
theorem wPc (hP : P = 134 ∨ P = 140) (w : WT m) {k : Nat} {v : Int32} : WT (uI m (P + 3) k v) := by rcases hP with rfl | rfl; exact w.n rfl; exact w.n rfl
theorem wPd (hP : P = 134 ∨ P = 140) (w : WT m) {k v : Nat} (h : v ≤ 48) : WT (uI m (P + 4) k (nI v)) := by
  have e : (nI v).toInt = v := nI_toInt (by omega)
  rcases hP with rfl | rfl
  · exact w.t rfl (by omega) (by omega)
  · exact w.t rfl (by omega) (by omega)
theorem fP (hP : P = 134 ∨ P = 140) (_ : (0 : Nat) = 0) (f : Fx (PR P) m0 m) {j k : Nat} {v : Int32} (hj : j ≤ 5) : Fx (PR P) m0 (uI m (P + j) k v) := f.i ⟨by omega, by omega⟩
theorem fP0 (hP : P = 134 ∨ P = 140) (_ : (0 : Nat) = 0) (f : Fx (PR P) m0 m) {k : Nat} {v : Int32} : Fx (PR P) m0 (uI m P k v) := f.i ⟨by omega, by omega⟩
theorem PR_7 (hP : P = 134 ∨ P = 140) {S : List Nat} (hS : S.elem 7 = true) (a k : Nat) (h : PR P a k) : RS S a k := by
  unfold RS
  rw [rg_7 k (by have := h.1; omega) (by have := h.2; omega)]
  exact hS
theorem slk_le (st : Nat) : slk st ≤ 3 := by unfold slk; split <;> (try split) <;> (try split) <;> (try split) <;> omega
theorem e_openR (hP : P = 134 ∨ P = 140) (w : WT m) (f : Fx (PR P) m0 m) (h5 : m.1 P 5 = nI rd) (h6 : m.1 P 6 = nI gm) (hr : rd ≤ 12) (hg : gm ≤ 48) : Ct ad μX3_openRound d [.ref (ad P)] m (fun r m' => r = none ∧ WT m' ∧ Fx (PR P) m0 m' ∧ m'.1 P 5 = nI (rd + 1) ∧ m'.1 P 6 = nI gm ∧ m'.1 P 7 = 0 ∧ m'.1 P 8 = 0 ∧ (∀ j k, 1 ≤ j → j ≤ 3 → m'.1 (P + j) k = m.1 (P + j) k) ∧ (∀ ρ, ρ < rd → m'.1 (P + 4) ρ = m.1 (P + 4) ρ) ∧ (rd < 12 → m'.1 (P + 4) rd = nI gm) ∧ m'.1 1 1 = m.1 1 1 ∧ ∀ k, m'.1 (P + 5) k = m.1 (P + 5) k) := by
  refine v_X3_openRound (Pl_of hP) ?_
  rw [h5, h6]
  refine ⟨fun c => ?_, fun c => ?_⟩
  · have hc := (le_l 12 12 rfl (by decide) (by omega)).mp c
    refine g_X3_openRound_22 (Pl_of hP) ?_
    rw [h5, nI_1]
    refine ⟨rfl, wP7 hP (wP8 hP (wP5 hP w (by omega))), fP0 hP rfl (fP0 hP rfl (fP0 hP rfl f)), (u_ne (by omega)).trans ((u_ne (by omega)).trans u_eq), (u_ne (by omega)).trans ((u_ne (by omega)).trans ((u_ne (by omega)).trans h6)), u_eq, (u_ne (by omega)).trans u_eq, fun j k h1 h2 => (u_ne (by omega)).trans ((u_ne (by omega)).trans (u_ne (by omega))), fun ρ hρ => (u_ne (by omega)).trans ((u_ne (by omega)).trans (u_ne (by omega))), fun q => by omega, (u_ne (by omega)).trans ((u_ne (by omega)).trans (u_ne (by omega))), fun k => (u_ne (by omega)).trans ((u_ne (by omega)).trans (u_ne (by omega)))⟩
  · have hc : rd < 12 := Nat.lt_of_not_le (fun q => c ((le_l 12 12 rfl (by decide) (by omega)).mpr q))
    refine ⟨nat_in (by omega) (by decide), ?_⟩
    rw [nI_clamp (by omega)]
    refine g_X3_openRound_22 (Pl_of hP) ?_
    have e5 : (uI m (P + 4) rd (nI gm)).1 P 5 = nI rd := (u_ne (by omega)).trans h5
    rw [e5, nI_1]
    refine ⟨rfl, wP7 hP (wP8 hP (wP5 hP (wPd hP w hg) (by omega))), fP0 hP rfl (fP0 hP rfl (fP0 hP rfl (fP hP rfl f (by decide)))), (u_ne (by omega)).trans ((u_ne (by omega)).trans u_eq), (u_ne (by omega)).trans ((u_ne (by omega)).trans ((u_ne (by omega)).trans ((u_ne (by omega)).trans h6))), u_eq, (u_ne (by omega)).trans u_eq, fun j k h1 h2 => (u_ne (by omega)).trans ((u_ne (by omega)).trans ((u_ne (by omega)).trans (u_ne (by omega)))), fun ρ hρ => (u_ne (by omega)).trans ((u_ne (by omega)).trans ((u_ne (by omega)).trans (u_ne (by omega)))), fun _ => (u_ne (by omega)).trans ((u_ne (by omega)).trans ((u_ne (by omega)).trans u_eq)), (u_ne (by omega)).trans ((u_ne (by omega)).trans ((u_ne (by omega)).trans (u_ne (by omega)))), fun k => (u_ne (by omega)).trans ((u_ne (by omega)).trans ((u_ne (by omega)).trans (u_ne (by omega))))⟩
theorem e_addG (hP : P = 134 ∨ P = 140) (h6 : m.1 P 6 = nI gm) (hg : gm < 48) {x1 x2 x3 : Int32} : Ct ad μX3_addGame d [.ref (ad P), .int x1, .int x2, .int x3] m (fun r m' => r = none ∧ m' = uI (uI (uI (uI m (P + 1) gm x1) (P + 2) gm x2) (P + 3) gm x3) P 6 (nI (gm + 1))) := by
  refine v_X3_addGame (Pl_of hP) ?_
  rw [h6]
  have e1 : (uI m (P + 1) (nI gm).toNatClampNeg x1).1 P 6 = nI gm := (u_ne (by omega)).trans h6
  rw [e1]
  have e2 : (uI (uI m (P + 1) (nI gm).toNatClampNeg x1) (P + 2) (nI gm).toNatClampNeg x2).1 P 6 = nI gm := (u_ne (by omega)).trans ((u_ne (by omega)).trans h6)
  rw [e2]
  have e3 : (uI (uI (uI m (P + 1) (nI gm).toNatClampNeg x1) (P + 2) (nI gm).toNatClampNeg x2) (P + 3) (nI gm).toNatClampNeg x3).1 P 6 = nI gm := (u_ne (by omega)).trans ((u_ne (by omega)).trans ((u_ne (by omega)).trans h6))
  rw [e3, nI_1, nI_clamp (by omega)]
  exact ⟨fun q => absurd ((le_l 48 48 rfl (by decide) (by omega)).mp q) (by omega), fun _ => ⟨nat_in hg (by decide), nat_in hg (by decide), nat_in hg (by decide), rfl, rfl⟩⟩
/-- a side's digit, where the first one is wanted -/
theorem e_side0 (hP : P = 134 ∨ P = 140) (hn : n ≤ 8) (hp : p ≤ 76) (w : WT m) (f : Fx (PR P) m0 m) (V : PCV p 0 rd gm) (C : PCC P 0 rd gm us fi se th sn m) (hr : rd ≤ 12) : Ct ad μX3_takeSide (d + 1) [.ref (ad P), .int (c - 48), .int (nI n)] m (PCQ m0 P n p c (0, rd, gm, us, fi, se, th, sn)) := by
  obtain ⟨V1, V2, V3, V4, V5, V6⟩ := V
  obtain ⟨c1, c2, c3, c4, c5, c6, c7, c8⟩ := C
  have hs0 : slk 0 = 0 := rfl
  have tn' : (nI n).toInt = n := nI_toInt (by omega)
  have bad : ¬ pSd n us c → PCQ m0 P n p c (0, rd, gm, us, fi, se, th, sn) (some (.int 0)) m := fun h => ⟨w, f, Or.inr ⟨rfl, pst_0n (fun q => h q.2)⟩⟩
  refine v_X3_takeSide (Pl_of hP) ⟨fun q => bad (fun z => ?_), fun q1 => ⟨fun q => bad (fun z => ?_), fun q2 => ⟨fun q3 => ?_, fun q => bad (fun z => ?_)⟩⟩⟩
  · have := y_ltr (n := 0) rfl q; have := z.1.1; omega
  · have := z_le q; have := z.1.2; omega
  · have a1 := y_nltr (n := 0) rfl q1
    have a2 := z_nle q2
    rw [c4] at q3 ⊢
    have hS : pSd n us c := ⟨⟨a1, by omega⟩, and1_n.mpr q3⟩
    have e7 : (uI m P 8 (us ||| ((1 : Int32) <<< ((c - 48) &&& 31)))).1 P 7 = nI 0 := (u_ne (by omega)).trans c1
    have e6 : (uI m P 8 (us ||| ((1 : Int32) <<< ((c - 48) &&& 31)))).1 P 6 = nI gm := (u_ne (by omega)).trans c3
    rw [e7]
    refine ⟨fun z => absurd nI_0 z, fun _ => (e_addG hP e6 (by omega)).to ?_⟩
    rintro _ m1 ⟨rfl, e⟩
    subst e
    refine ⟨rfl, wP7 hP (wP6 hP (wPc hP (wPb hP (wPa hP (wP8 hP w) a1 (by omega)) a1 (by omega))) (by omega)), fP0 hP rfl (fP0 hP rfl (fP hP rfl (fP hP rfl (fP hP rfl (fP0 hP rfl f) (by decide)) (by decide)) (by decide))), Or.inl ⟨rfl, _, pst_0 hr hS, ⟨by decide, V2, V3, ?_, fun _ => by omega, fun _ => by omega⟩, u_eq, ?_, ?_, ?_, fun j hj => ?_, fun j hj => ?_, fun j hj => ?_, fun ρ h1 h2 => ?_⟩⟩
    · show 4 * (gm + 1) ≤ p + 1 + 3
      omega
    · exact (u_ne (by omega)).trans ((u_ne (by omega)).trans ((u_ne (by omega)).trans ((u_ne (by omega)).trans ((u_ne (by omega)).trans ((u_ne (by omega)).trans c2)))))
    · exact (u_ne (by omega)).trans u_eq
    · exact (u_ne (by omega)).trans ((u_ne (by omega)).trans ((u_ne (by omega)).trans ((u_ne (by omega)).trans ((u_ne (by omega)).trans u_eq))))
    · by_cases hjg : j = gm
      · subst hjg
        rw [upd_e]
        exact (u_ne (by omega)).trans ((u_ne (by omega)).trans ((u_ne (by omega)).trans ((u_ne (by omega)).trans u_eq)))
      · rw [upd_n hjg]
        exact (u_ne (by omega)).trans ((u_ne (by omega)).trans ((u_ne (by omega)).trans ((u_ne (by omega)).trans ((u_ne (by omega)).trans ((u_ne (by omega)).trans (c5 j (by omega)))))))
    · by_cases hjg : j = gm
      · subst hjg
        rw [upd_e]
        exact (u_ne (by omega)).trans ((u_ne (by omega)).trans ((u_ne (by omega)).trans u_eq))
      · rw [upd_n hjg]
        exact (u_ne (by omega)).trans ((u_ne (by omega)).trans ((u_ne (by omega)).trans ((u_ne (by omega)).trans ((u_ne (by omega)).trans ((u_ne (by omega)).trans (c6 j (by omega)))))))
    · by_cases hjg : j = gm
      · subst hjg
        rw [upd_e]
        exact (u_ne (by omega)).trans ((u_ne (by omega)).trans u_eq)
      · rw [upd_n hjg]
        exact (u_ne (by omega)).trans ((u_ne (by omega)).trans ((u_ne (by omega)).trans ((u_ne (by omega)).trans ((u_ne (by omega)).trans ((u_ne (by omega)).trans (c7 j (by omega)))))))
    · exact (u_ne (by omega)).trans ((u_ne (by omega)).trans ((u_ne (by omega)).trans ((u_ne (by omega)).trans ((u_ne (by omega)).trans ((u_ne (by omega)).trans (c8 ρ h1 h2))))))
  · rw [c4] at q
    exact q (and1_n.mp z.2)
/-- where the other one is wanted -/
theorem e_side3 (hP : P = 134 ∨ P = 140) (hn : n ≤ 8) (hp : p ≤ 76) (w : WT m) (f : Fx (PR P) m0 m) (V : PCV p 3 rd gm) (C : PCC P 3 rd gm us fi se th sn m) (hr : rd ≤ 12) : Ct ad μX3_takeSide (d + 1) [.ref (ad P), .int (c - 48), .int (nI n)] m (PCQ m0 P n p c (3, rd, gm, us, fi, se, th, sn)) := by
  obtain ⟨V1, V2, V3, V4, V5, V6⟩ := V
  obtain ⟨c1, c2, c3, c4, c5, c6, c7, c8⟩ := C
  have hs0 : slk 3 = 2 := rfl
  have hgm := V5 (by decide)
  obtain ⟨g, rfl⟩ : ∃ g, gm = g + 1 := ⟨gm - 1, by omega⟩
  have tn' : (nI n).toInt = n := nI_toInt (by omega)
  have bad : ¬ pSd n us c → PCQ m0 P n p c (3, rd, g + 1, us, fi, se, th, sn) (some (.int 0)) m := fun h => ⟨w, f, Or.inr ⟨rfl, pst_3n (fun q => h q.2)⟩⟩
  refine v_X3_takeSide (Pl_of hP) ⟨fun q => bad (fun z => ?_), fun q1 => ⟨fun q => bad (fun z => ?_), fun q2 => ⟨fun q3 => ?_, fun q => bad (fun z => ?_)⟩⟩⟩
  · have := y_ltr (n := 0) rfl q; have := z.1.1; omega
  · have := z_le q; have := z.1.2; omega
  · have a1 := y_nltr (n := 0) rfl q1
    have a2 := z_nle q2
    rw [c4] at q3 ⊢
    have hS : pSd n us c := ⟨⟨a1, by omega⟩, and1_n.mpr q3⟩
    have e7 : (uI m P 8 (us ||| ((1 : Int32) <<< ((c - 48) &&& 31)))).1 P 7 = nI 3 := (u_ne (by omega)).trans c1
    have e6 : (uI m P 8 (us ||| ((1 : Int32) <<< ((c - 48) &&& 31)))).1 P 6 = nI (g + 1) := (u_ne (by omega)).trans c3
    rw [e7, e6, nI_pred, nI_clamp (by omega)]
    refine ⟨fun _ => ⟨fun z => absurd z (nI_nle (by omega) (by omega)), fun _ => ⟨nat_in (by omega) (by decide), ?_⟩⟩, fun z => absurd z (by decide)⟩
    refine ⟨wP7 hP (wPb hP (wP8 hP w) a1 (by omega)), fP0 hP rfl (fP hP rfl (fP0 hP rfl f) (by decide)), Or.inl ⟨rfl, _, pst_3 hr hS, ⟨by decide, V2, V3, ?_, fun _ => by omega, fun _ => by omega⟩, u_eq, ?_, ?_, ?_, fun j hj => ?_, fun j hj => ?_, fun j hj => ?_, fun ρ h1 h2 => ?_⟩⟩
    · show 4 * (g + 1) ≤ p + 1 + 1
      omega
    · exact (u_ne (by omega)).trans ((u_ne (by omega)).trans ((u_ne (by omega)).trans c2))
    · exact (u_ne (by omega)).trans ((u_ne (by omega)).trans ((u_ne (by omega)).trans c3))
    · exact (u_ne (by omega)).trans ((u_ne (by omega)).trans u_eq)
    · exact (u_ne (by omega)).trans ((u_ne (by omega)).trans ((u_ne (by omega)).trans (c5 j hj)))
    · rw [Nat.add_sub_cancel]
      by_cases hjg : j = g
      · subst hjg
        rw [upd_e]
        exact (u_ne (by omega)).trans u_eq
      · rw [upd_n hjg]
        exact (u_ne (by omega)).trans ((u_ne (by omega)).trans ((u_ne (by omega)).trans (c6 j hj)))
    · exact (u_ne (by omega)).trans ((u_ne (by omega)).trans ((u_ne (by omega)).trans (c7 j hj)))
    · exact (u_ne (by omega)).trans ((u_ne (by omega)).trans ((u_ne (by omega)).trans (c8 ρ h1 h2)))
  · rw [c4] at q
    exact q (and1_n.mp z.2)
/-- a game is thrown -/
theorem e_throw (hP : P = 134 ∨ P = 140) (w : WT m) (f : Fx (PR P) m0 m) {st st' : Nat} {x2 : Int32} (hst : st = 1 ∨ st = 4) (hp : p ≤ 76) (V : PCV p st rd gm) (C : PCC P st rd gm us fi se th sn m) (h33 : c = 33) (hst' : 4 * gm ≤ p + 1 + slk st' ∧ st' ≤ 5) : Ct ad μX3_takeThrow d [.ref (ad P), .int c, .int x2, .int (nI st')] m (fun r m' => r = some (.int 1) ∧ WT m' ∧ Fx (PR P) m0 m' ∧ PCT P (p + 1) (st', rd, gm, us, fi, se, upd th (gm - 1) (th (gm - 1) ||| x2), sn) m') := by
  obtain ⟨V1, V2, V3, V4, V5, V6⟩ := V
  obtain ⟨c1, c2, c3, c4, c5, c6, c7, c8⟩ := C
  have hs0 := slk_le st
  have hgm := V5 (by omega)
  obtain ⟨g, rfl⟩ : ∃ g, gm = g + 1 := ⟨gm - 1, by omega⟩
  refine v_X3_takeThrow (Pl_of hP) ⟨fun _ => ?_, fun q => absurd h33 q⟩
  rw [c3, nI_pred, nI_clamp (by omega)]
  refine ⟨fun z => absurd z (nI_nle (by omega) (by omega)), fun _ => ⟨nat_in (by omega) (by decide), nat_in (by omega) (by decide), rfl, wP7 hP (wPc hP w), fP0 hP rfl (fP hP rfl f (by decide)), ⟨hst'.2, V2, V3, hst'.1, fun _ => by omega, fun _ => by omega⟩, u_eq, ?_, ?_, ?_, fun j hj => ?_, fun j hj => ?_, fun j hj => ?_, fun ρ h1 h2 => ?_⟩⟩
  · exact (u_ne (by omega)).trans ((u_ne (by omega)).trans c2)
  · exact (u_ne (by omega)).trans ((u_ne (by omega)).trans c3)
  · exact (u_ne (by omega)).trans ((u_ne (by omega)).trans c4)
  · exact (u_ne (by omega)).trans ((u_ne (by omega)).trans (c5 j hj))
  · exact (u_ne (by omega)).trans ((u_ne (by omega)).trans (c6 j hj))
  · rw [Nat.add_sub_cancel]
    by_cases hjg : j = g
    · subst hjg
      rw [upd_e, c7 j (by omega)]
      exact (u_ne (by omega)).trans u_eq
    · rw [upd_n hjg]
      exact (u_ne (by omega)).trans ((u_ne (by omega)).trans (c7 j hj))
  · exact (u_ne (by omega)).trans ((u_ne (by omega)).trans (c8 ρ h1 h2))
theorem e_break (hP : P = 134 ∨ P = 140) (w : WT m) (f : Fx (PR P) m0 m) {st : Nat} {S : PlS} (hst : st = 4 ∨ st = 5) (hp : p ≤ 76) (V : PCV p st rd gm) (C : PCC P st rd gm us fi se th sn m) (hr : rd ≤ 12) (hS : pst n c S = pBr c rd gm us fi se th sn) : Ct ad μX3_takeBreak (d + 1) [.ref (ad P), .int c] m (PCQ m0 P n p c S) := by
  obtain ⟨V1, V2, V3, V4, V5, V6⟩ := V
  obtain ⟨c1, c2, c3, c4, c5, c6, c7, c8⟩ := C
  have hs0 : slk st = 1 := by rcases hst with rfl | rfl <;> rfl
  refine v_X3_takeBreak (Pl_of hP) ⟨fun h59 => ⟨fun h44 => ⟨wP7 hP w, fP0 hP rfl f, Or.inr ⟨rfl, hS.trans (pBr_n h59 h44)⟩⟩, fun h44 => ?_⟩, fun h59 => (e_openR hP w f c2 c3 hr (by omega)).to ?_⟩
  · subst h44
    refine ⟨wP7 hP w, fP0 hP rfl f, Or.inl ⟨rfl, _, hS.trans pBr_c, ⟨by decide, V2, V3, ?_, fun q => absurd rfl q, fun _ => rfl⟩, u_eq, (u_ne (by omega)).trans c2, (u_ne (by omega)).trans c3, (u_ne (by omega)).trans c4, fun j hj => (u_ne (by omega)).trans (c5 j hj), fun j hj => (u_ne (by omega)).trans (c6 j hj), fun j hj => (u_ne (by omega)).trans (c7 j hj), fun ρ h1 h2 => (u_ne (by omega)).trans (c8 ρ h1 h2)⟩⟩
    show 4 * gm ≤ p + 1 + 0
    omega
  · subst h59
    rintro _ m1 ⟨rfl, w1, f1, k5, k6, k7, k8, k9, k10, k11, -⟩
    refine ⟨rfl, w1, f1, Or.inl ⟨rfl, _, hS.trans pBr_s, ⟨by decide, by omega, by omega, ?_, fun q => absurd rfl q, fun _ => rfl⟩, k7, k5, k6, k8, fun j hj => (k9 1 j (by decide) (by decide)).trans (c5 j hj), fun j hj => (k9 2 j (by decide) (by decide)).trans (c6 j hj), fun j hj => (k9 3 j (by decide) (by decide)).trans (c7 j hj), fun ρ h1 h2 => ?_⟩⟩
    · show 4 * gm ≤ p + 1 + 0
      omega
    · by_cases hρ : ρ = rd
      · rw [hρ, updN_e]; exact k11 (by omega)
      · rw [updN_n hρ]; exact (k10 ρ (by omega)).trans (c8 ρ (by omega) h2)
theorem e_dash (hP : P = 134 ∨ P = 140) (w : WT m) (f : Fx (PR P) m0 m) {st : Nat} (hst : st = 1 ∨ st = 2) (hp : p ≤ 76) (V : PCV p st rd gm) (C : PCC P st rd gm us fi se th sn m) (h33 : st = 1 → c ≠ 33) : Ct ad μX3_takeDash d [.ref (ad P), .int c] m (PCQ m0 P n p c (st, rd, gm, us, fi, se, th, sn)) := by
  obtain ⟨V1, V2, V3, V4, V5, V6⟩ := V
  obtain ⟨c1, c2, c3, c4, c5, c6, c7, c8⟩ := C
  have hs0 : slk st ≤ 3 := slk_le st
  refine v_X3_takeDash (Pl_of hP) ⟨fun h => ?_, fun h => ⟨w, f, Or.inr ⟨rfl, ?_⟩⟩⟩
  · subst h
    have hS : pst n 45 (st, rd, gm, us, fi, se, th, sn) = some (3, rd, gm, us, fi, se, th, sn) := by
      rcases hst with rfl | rfl
      · exact pst_1d
      · exact pst_2d
    refine ⟨wP7 hP w, fP0 hP rfl f, Or.inl ⟨rfl, _, hS, ⟨by decide, V2, V3, ?_, fun _ => V5 (by omega), fun _ => by omega⟩, u_eq, (u_ne (by omega)).trans c2, (u_ne (by omega)).trans c3, (u_ne (by omega)).trans c4, fun j hj => (u_ne (by omega)).trans (c5 j hj), fun j hj => (u_ne (by omega)).trans (c6 j hj), fun j hj => (u_ne (by omega)).trans (c7 j hj), fun ρ h1 h2 => (u_ne (by omega)).trans (c8 ρ h1 h2)⟩⟩
    show 4 * gm ≤ p + 1 + 2
    omega
  · rcases hst with rfl | rfl
    · exact pst_1n (h33 rfl) h
    · exact pst_2n h
theorem e_takeP (hP : P = 134 ∨ P = 140) (hn : n ≤ 8) (hp : p ≤ 76) (w : WT m) (f : Fx (PR P) m0 m) {st : Nat} (V : PCV p st rd gm) (C : PCC P st rd gm us fi se th sn m) : Ct ad μX3_take (d + 2) [.ref (ad P), .int c, .int (nI n)] m (fun r m' => ∃ v : Int32, r = some (.int v) ∧ PCQ m0 P n p c (st, rd, gm, us, fi, se, th, sn) (some (.int v)) m') := by
  have V0 := V
  have C0 := C
  obtain ⟨V1, V2, V3, V4, V5, V6⟩ := V
  obtain ⟨c1, c2, c3, c4, c5, c6, c7, c8⟩ := C
  have wd : ∀ r m', PCQ m0 P n p c (st, rd, gm, us, fi, se, th, sn) r m' → ∃ v : Int32, r = some (Value.int v) ∧ ((v = 0 → ∃ v : Int32, some (Value.int 0) = some (Value.int v) ∧ PCQ m0 P n p c (st, rd, gm, us, fi, se, th, sn) (some (.int v)) m') ∧ (¬ v = 0 → ∃ v : Int32, some (Value.int 1) = some (Value.int v) ∧ PCQ m0 P n p c (st, rd, gm, us, fi, se, th, sn) (some (.int v)) m')) := by
    rintro r m' ⟨k1, k2, k3⟩
    rcases k3 with ⟨rfl, k4⟩ | ⟨rfl, k4⟩
    · exact ⟨1, rfl, fun q => absurd q (by decide), fun _ => ⟨1, rfl, k1, k2, Or.inl ⟨rfl, k4⟩⟩⟩
    · exact ⟨0, rfl, fun _ => ⟨0, rfl, k1, k2, Or.inr ⟨rfl, k4⟩⟩, fun q => absurd rfl q⟩
  have wb : ∀ r m', PCQ m0 P n p c (st, rd, gm, us, fi, se, th, sn) r m' → ∃ v : Int32, r = some (Value.int v) ∧ (bz v ∧ ∃ v' : Int32, some (Value.int v) = some (Value.int v') ∧ PCQ m0 P n p c (st, rd, gm, us, fi, se, th, sn) (some (.int v')) m') := by
    rintro r m' ⟨k1, k2, k3⟩
    rcases k3 with ⟨rfl, k4⟩ | ⟨rfl, k4⟩
    · exact ⟨1, rfl, bz_1, 1, rfl, k1, k2, Or.inl ⟨rfl, k4⟩⟩
    · exact ⟨0, rfl, bz_0, 0, rfl, k1, k2, Or.inr ⟨rfl, k4⟩⟩
  have i : ∀ j, j ≤ 4 → (nI st = nI j ↔ st = j) := fun j hj => nI_eq (a := st) (b := j) (by omega) (by omega)
  have i0 := i 0 (by decide)
  have i1 := i 1 (by decide)
  have i2 := i 2 (by decide)
  have i3 := i 3 (by decide)
  have i4 := i 4 (by decide)
  refine v_X3_take (d := d + 1) (Pl_of hP) ?_
  rw [c1, c2]
  refine ⟨fun q => ?_, fun q => ?_, fun q => ?_, fun q => ?_, fun q => ?_, fun q0 q1 q2 q3 q4 => ?_⟩
  · obtain rfl := i0.mp q
    refine ⟨fun q12 => ?_, fun q12 => (e_side0 hP hn hp w f V0 C0 ?_).to wd⟩
    · have := (lt_l 12 12 rfl (by decide) (by omega)).mp q12
      exact ⟨0, rfl, w, f, Or.inr ⟨rfl, pst_0n (fun z => by omega)⟩⟩
    · exact Nat.le_of_not_lt (fun z => q12 ((lt_l 12 12 rfl (by decide) (by omega)).mpr z))
  · obtain rfl := i1.mp q
    by_cases h33 : c = 33
    · refine (e_throw (d := d + 1) (st' := 2) hP w f (Or.inl rfl) hp V0 C0 h33 ⟨?_, by decide⟩).to ?_
      · have e1 : slk 1 = 3 := rfl
        show 4 * gm ≤ p + 1 + 2
        omega
      · rintro _ m1 ⟨rfl, w1, f1, k⟩
        exact ⟨1, rfl, fun _ => ⟨1, rfl, w1, f1, Or.inl ⟨rfl, _, by rw [h33]; exact pst_1t, k⟩⟩, fun z => absurd z (by decide)⟩
    · exact v_X3_takeThrow (Pl_of hP) ⟨fun z => absurd z h33, fun _ => ⟨0, rfl, fun z => absurd rfl z, fun _ => (e_dash (d := d + 1) hP w f (Or.inl rfl) hp V0 C0 (fun _ => h33)).to wd⟩⟩
  · obtain rfl := i2.mp q
    exact (e_dash (d := d + 1) hP w f (Or.inr rfl) hp V0 C0 (fun z => absurd z (by decide))).to wb
  · obtain rfl := i3.mp q
    have hr : rd ≤ 12 := by
      by_cases h13 : rd = 13
      · exact absurd (V6 h13) (by decide)
      · omega
    exact ⟨fun q12 => by have := (lt_l 12 12 rfl (by decide) (by omega)).mp q12; omega, fun q12 => (e_side3 hP hn hp w f V0 C0 hr).to wd⟩
  · obtain rfl := i4.mp q
    have hr : rd ≤ 12 := by
      by_cases h13 : rd = 13
      · exact absurd (V6 h13) (by decide)
      · omega
    by_cases h33 : c = 33
    · refine (e_throw (d := d + 1) (st' := 5) hP w f (Or.inr rfl) hp V0 C0 h33 ⟨?_, by decide⟩).to ?_
      · have e1 : slk 4 = 1 := rfl
        show 4 * gm ≤ p + 1 + 1
        omega
      · rintro _ m1 ⟨rfl, w1, f1, k⟩
        exact ⟨1, rfl, fun _ => ⟨1, rfl, w1, f1, Or.inl ⟨rfl, _, by rw [h33]; exact pst_4t, k⟩⟩, fun z => absurd z (by decide)⟩
    · exact v_X3_takeThrow (Pl_of hP) ⟨fun z => absurd z h33, fun _ => ⟨0, rfl, fun z => absurd rfl z, fun _ => (e_break (d := d) hP w f (Or.inl rfl) hp V0 C0 hr (pst_4b h33)).to wd⟩⟩
  · have h5 : st = 5 := by
      have a0 : st ≠ 0 := fun z => q0 (i0.mpr z)
      have a1 : st ≠ 1 := fun z => q1 (i1.mpr z)
      have a2 : st ≠ 2 := fun z => q2 (i2.mpr z)
      have a3 : st ≠ 3 := fun z => q3 (i3.mpr z)
      have a4 : st ≠ 4 := fun z => q4 (i4.mpr z)
      omega
    subst h5
    have hr : rd ≤ 12 := by
      by_cases h13 : rd = 13
      · exact absurd (V6 h13) (by decide)
      · omega
    exact (e_break (d := d) hP w f (Or.inr rfl) hp V0 C0 hr pst_5b).to wb
end PCL
end
section
/-! plan(): THE CLASS -/
section PCM
variable {ad : Nat → Nat} {d : Nat} {m : Wm}
def pcR (m : Wm) (P : Nat) (O : Nat ⊕ PlS) (r : Option Value) (m' : Wm) : Prop := WT m' ∧ Fx (PR P) m m' ∧ (∀ q, O = .inl q → r = some (.int (nI q)) ∧ q ≤ 76) ∧ ∀ S, O = .inr S → r = some (.int (-1)) ∧ pok S = true ∧ ∃ p, p ≤ 76 ∧ PCT P p S m'
theorem e_compP {P n t : Nat} {fi se th : Nat → Int32} {sn : Nat → Nat} (hP : P = 134 ∨ P = 140) (w : WT m) (hn8 : n ≤ 8) (ht : m.1 1 1 = nI t) (ht80 : t ≤ 80) (ht0 : t ≠ 0) (hsn : sn 0 = 0) : Ct ad μX3_compile (d + 3) [.ref (ad P), .ref (ad 1), .int (nI n)] m (pcR m P (MO (pst n) pok (m.1 2) (decide (76 < t)) (minT t 76) 0 (0, 1, 0, 0, fi, se, th, sn))) := by
  generalize hO0 : MO (pst n) pok (m.1 2) (decide (76 < t)) (minT t 76) 0 (0, 1, 0, 0, fi, se, th, sn) = O
  have e76 : minT t 76 ≤ 76 := by unfold minT; split <;> omega
  have et : minT t 76 ≤ t := by unfold minT; split <;> omega
  have L : ∀ (k p : Nat) (S : PlS) (m1 : Wm), minT t 76 - p < k → p ≤ minT t 76 → WT m1 → Fx (PR P) m m1 → PCT P p S m1 → MO (pst n) pok (m.1 2) (decide (76 < t)) (minT t 76 - p) p S = O →
      AW ad E0 μX3_compile (d + 3) (pcR m P O) 30 [(0, .ref (ad P)), (1, .ref (ad 1)), (2, .int (nI n)), (3, .int (nI (minT t 76))), (4, .int (nI p))] [] m1 := by
    intro k
    induction k with
    | zero => intros; omega
    | succ k ih =>
      intro p S m1 hk hp w1 f1 hS hO
      obtain ⟨st, rd, gm, us, fi, se, th, sn⟩ := S
      obtain ⟨V, C⟩ := hS
      have t1 : m1.1 1 1 = nI t := (f1.at (a := 1) (k := 1) (by unfold PR; omega)).trans ht
      have t2 : ∀ k, m1.1 2 k = m.1 2 k := fun k => f1.at (a := 2) (k := k) (by unfold PR; omega)
      refine g_X3_compile_30 (Pl_of hP) ⟨fun c => ?_, fun c => ?_⟩
      · have hpe : p = minT t 76 := by have := (nI_leI (a := minT t 76) (b := p) (by omega) (by omega)).mp c; omega
        rw [t1, C.1]
        rw [show minT t 76 - p = 0 by omega] at hO
        have i4 : nI st = 4 ↔ st = 4 := nI_eq (a := st) (b := 4) (by have := V.1; omega) (by decide)
        have i5 : nI st = 5 ↔ st = 5 := nI_eq (a := st) (b := 5) (by have := V.1; omega) (by decide)
        have bad : O = .inl p → pcR m P O (some (.int (nI (minT t 76)))) m1 := fun h => ⟨w1, f1, fun q2 h2 => (by rw [h] at h2; cases h2; exact ⟨by rw [hpe], by omega⟩), fun S2 h2 => (by rw [h] at h2; cases h2)⟩
        have good : decide (76 < t) = false → pok (st, rd, gm, us, fi, se, th, sn) = true → pcR m P O (some (.int (-1))) m1 := fun hb hk2 => by
          rw [MO_e ⟨hb, hk2⟩] at hO
          exact ⟨w1, f1, fun q2 h2 => (by rw [h2] at hO; cases hO), fun S2 h2 => (by rw [h2] at hO; cases hO; exact ⟨rfl, hk2, p, by omega, V, C⟩)⟩
        refine ⟨fun q => bad ?_, fun q => ⟨fun q4 => good ?_ ?_, fun q4 => ⟨fun q5 => good ?_ ?_, fun q5 => bad ?_⟩⟩⟩
        · have q' := (lt_l 76 76 rfl (by decide) (by omega)).mp q
          have hb : decide (76 < t) = true := decide_eq_true q'
          rw [← hO]
          exact MO_n (by rw [hb]; exact fun z => absurd z.1 (by decide))
        · exact decide_eq_false (fun z => q ((lt_l 76 76 rfl (by decide) (by omega)).mpr z))
        · exact decide_eq_true (Or.inl (i4.mp q4))
        · exact decide_eq_false (fun z => q ((lt_l 76 76 rfl (by decide) (by omega)).mpr z))
        · exact decide_eq_true (Or.inr (i5.mp q5))
        · rw [← hO]
          refine MO_n (fun z => ?_)
          have := of_decide_eq_true z.2
          rcases this with z | z
          · exact q4 (i4.mpr z)
          · exact q5 (i5.mpr z)
      · have hpe : p < minT t 76 := Nat.lt_of_not_le (fun z => c ((nI_leI (a := minT t 76) (b := p) (by omega) (by omega)).mpr z))
        rw [nI_clamp (by omega), t2]
        refine ⟨nat_in (by omega) (by decide), (e_takeP (d := d) (m0 := m) hP hn8 (by omega) w1 f1 V C).to ?_⟩
        rintro r m2 ⟨v, rfl, w2, f2, h⟩
        rcases h with ⟨hv, S2, e2, hS2⟩ | ⟨hv, e2⟩
        · cases hv
          rw [MO_ss hpe e2] at hO
          refine ⟨1, rfl, fun _ => ?_, fun z => absurd z (by decide)⟩
          rw [nI_1]
          exact ih (p + 1) S2 m2 (by omega) (by omega) w2 f2 hS2 hO
        · cases hv
          rw [ep_s hpe, MO_f e2] at hO
          refine ⟨0, rfl, fun z => absurd rfl z, fun _ => ⟨w2, f2, fun q2 h2 => ?_, fun S2 h2 => ?_⟩⟩
          · rw [h2] at hO; cases hO; exact ⟨rfl, by omega⟩
          · rw [h2] at hO; cases hO
  refine v_X3_compile (d := d + 2) (Pl_of hP) ((e_clearP (Pl_of hP)).to ?_)
  rintro _ m1 ⟨rfl, e⟩
  subst e
  have w1 : WT (uI (uI m P 5 0) P 6 0) := wP6 (v := 0) hP (wP5 (v := 0) hP w (by decide)) (by decide)
  have f1 : Fx (PR P) m (uI (uI m P 5 0) P 6 0) := fP0 hP rfl (fP0 hP rfl Fx.rf)
  have h11 : (uI (uI m P 5 0) P 6 0).1 1 1 = nI t := (u_ne (by omega)).trans ((u_ne (by omega)).trans ht)
  rw [h11]
  refine ⟨rfl, fun _ => (e_openR (rd := 0) (gm := 0) hP w1 f1 ((u_ne (by omega)).trans u_eq) u_eq (by decide) (by decide)).to ?_, fun q => absurd ((nI_eq (a := t) (b := 0) (by omega) (by decide)).mp q) ht0⟩
  rintro _ m2 ⟨rfl, w2, f2, k5, k6, k7, k8, -, -, k11, k12, -⟩
  refine ⟨rfl, ?_⟩
  rw [k12, h11, minT_i ht80]
  exact L 81 0 (0, 1, 0, 0, fi, se, th, sn) m2 (by omega) (Nat.zero_le _) w2 f2 ⟨⟨by decide, by decide, by decide, Nat.zero_le _, fun q => absurd rfl q, fun q => absurd q (by decide)⟩, k7, k5, k6, k8, fun j hj => absurd hj (Nat.not_lt_zero j), fun j hj => absurd hj (Nat.not_lt_zero j), fun j hj => absurd hj (Nat.not_lt_zero j), fun ρ h1 _ => by
    have : ρ = 0 := by omega
    subst this
    rw [hsn]
    exact k11 (by decide)⟩ hO0
theorem e_compP0 {P n : Nat} (hP : P = 134 ∨ P = 140) (w : WT m) (ht : m.1 1 1 = 0) : Ct ad μX3_compile (d + 3) [.ref (ad P), .ref (ad 1), .int (nI n)] m (fun r m' => WT m' ∧ Fx (PR P) m m' ∧ r = some (.int (-1)) ∧ m'.1 P 5 = 0 ∧ m'.1 P 6 = 0) := by
  refine v_X3_compile (d := d + 2) (Pl_of hP) ((e_clearP (Pl_of hP)).to ?_)
  rintro _ m1 ⟨rfl, e⟩
  subst e
  have w1 : WT (uI (uI m P 5 0) P 6 0) := wP6 (v := 0) hP (wP5 (v := 0) hP w (by decide)) (by decide)
  have f1 : Fx (PR P) m (uI (uI m P 5 0) P 6 0) := fP0 hP rfl (fP0 hP rfl Fx.rf)
  have h11 : (uI (uI m P 5 0) P 6 0).1 1 1 = 0 := (u_ne (by omega)).trans ((u_ne (by omega)).trans ht)
  exact ⟨rfl, fun q => absurd h11 q, fun _ => ⟨w1, f1, rfl, (u_ne (by omega)).trans u_eq, u_eq⟩⟩
/-- which plan is in use, which one is spare -/
def PRF (m : Wm) (P Q : Nat) : Prop := m.2.2 0 9 = some P ∧ m.2.2 0 10 = some Q ∧ ((P = 134 ∧ Q = 140) ∨ (P = 140 ∧ Q = 134))
def plC (m : Wm) (P Q : Nat) (O : Nat ⊕ PlS) (r : Option Value) (m' : Wm) : Prop := WT m' ∧ Fx (RS [0, 7, 44, 54]) m m' ∧ m'.1 1 1 = 0 ∧
  (∀ q, O = .inl q → r = some (.int (-1 - nI q)) ∧ PRF m' P Q ∧ (∀ b k, P ≤ b → b ≤ P + 5 → m'.1 b k = m.1 b k) ∧ Fx (RS [0, 7]) m m') ∧
  ∀ st rd gm us fi se th sn, O = .inr (st, rd, gm, us, fi, se, th, sn) → r = some (.int (nI rd)) ∧ PRF m' Q P ∧ m'.1 0 11 = 0 ∧ (1 ≤ rd ∧ rd ≤ 12 ∧ 1 ≤ gm ∧ gm ≤ 20) ∧ PCC Q st rd gm us fi se th sn m'
theorem e_planC {P Q n t : Nat} {fi se th : Nat → Int32} {sn : Nat → Nat} (w : WT m) (hn : m.1 3 3 = nI n) (hn8 : n ≤ 8) (ht : m.1 1 1 = nI t) (ht80 : t ≤ 80) (ht0 : t ≠ 0) (hsn : sn 0 = 0) (hR : PRF m P Q) : Ct ad μX11_plan (d + 4) [.ref (ad 0)] m (plC m P Q (MO (pst n) pok (m.1 2) (decide (76 < t)) (minT t 76) 0 (0, 1, 0, 0, fi, se, th, sn))) := by
  obtain ⟨h9, h10, hPQ⟩ := hR
  have hP : P = 134 ∨ P = 140 := by omega
  have hQ : Q = 134 ∨ Q = 140 := by omega
  refine v_X11_plan (d := d + 3) ⟨Q, h10, Pl_of hQ, ?_⟩
  rw [hn]
  refine (e_compP (d := d) (fi := fi) (se := se) (th := th) (sn := sn) hQ w hn8 ht ht80 ht0 hsn).to ?_
  generalize MO (pst n) pok (m.1 2) (decide (76 < t)) (minT t 76) 0 (0, 1, 0, 0, fi, se, th, sn) = O
  rintro r m1 ⟨w1, f1, hq, hS⟩
  have w2 : WT (uI m1 1 1 (0 : Int32)) := w1.t rfl (by decide) (by decide)
  have f1' : Fx (RS [0, 7]) m m1 := (Fx.rf (S := RS [0, 7])).tr f1 (PR_7 hQ rfl)
  have f2 : Fx (RS [0, 7]) m (uI m1 1 1 (0 : Int32)) := f1'.i rfl
  have r9 : (uI m1 1 1 (0 : Int32)).2.2 0 9 = some P := (f1 0 9 (by unfold PR; omega)).2.2.trans h9
  have r10 : (uI m1 1 1 (0 : Int32)).2.2 0 10 = some Q := (f1 0 10 (by unfold PR; omega)).2.2.trans h10
  cases hO : O with
  | inl q =>
    obtain ⟨rfl, q76⟩ := hq q hO
    refine ⟨nI q, rfl, fun z => absurd z.symm (m1_ne q (by omega)), fun _ => ⟨w2, (Fx.rf (S := RS [0, 7, 44, 54])).tr f2 (RS_sub rfl), rfl, fun q2 h2 => ?_, fun _ _ _ _ _ _ _ _ h2 => by cases h2⟩⟩
    cases h2
    exact ⟨rfl, ⟨r9, r10, hPQ⟩, fun b k hb1 hb2 => (u_ne (by omega)).trans (f1.at (by unfold PR; omega)), f2⟩
  | inr S =>
    obtain ⟨rfl, hk2, p, hp, hS2⟩ := hS S hO
    obtain ⟨st, rd, gm, us, fi', se', th', sn'⟩ := S
    obtain ⟨V, C⟩ := hS2
    obtain ⟨V1, V2, V3, V4, V5, V6⟩ := V
    have hsl := slk_le st
    refine ⟨-1, rfl, fun _ => ⟨P, r9, Pl_of hP, Q, r10, Pl_of hQ, ?_⟩, fun z => absurd rfl z⟩
    have w3 : WT (uI (uR (uR (uI m1 1 1 (0 : Int32)) 0 9 (some Q)) 0 10 (some P)) 0 11 (0 : Int32)) := ((w2.rP (Or.inl rfl) hQ).rP (Or.inr rfl) hP).n rfl
    have f3 : Fx (RS [0, 7, 44, 54]) m (uI (uR (uR (uI m1 1 1 (0 : Int32)) 0 9 (some Q)) 0 10 (some P)) 0 11 (0 : Int32)) := (((Fx.rf (S := RS [0, 7, 44, 54])).tr f2 (RS_sub rfl)).r rfl |>.r rfl).i rfl
    have n9 : (uI (uR (uR (uI m1 1 1 (0 : Int32)) 0 9 (some Q)) 0 10 (some P)) 0 11 (0 : Int32)).2.2 0 9 = some Q := rfl
    have n10 : (uI (uR (uR (uI m1 1 1 (0 : Int32)) 0 9 (some Q)) 0 10 (some P)) 0 11 (0 : Int32)).2.2 0 10 = some P := rfl
    have cell : ∀ b k, 133 < b → b < 146 → (uI (uR (uR (uI m1 1 1 (0 : Int32)) 0 9 (some Q)) 0 10 (some P)) 0 11 (0 : Int32)).1 b k = m1.1 b k := fun b k h1 h2 => (u_ne (by omega)).trans (u_ne (by omega))
    have j11 : (uI (uR (uR (uI m1 1 1 (0 : Int32)) 0 9 (some Q)) 0 10 (some P)) 0 11 (0 : Int32)).1 1 1 = 0 := rfl
    have j011 : (uI (uR (uR (uI m1 1 1 (0 : Int32)) 0 9 (some Q)) 0 10 (some P)) 0 11 (0 : Int32)).1 0 11 = 0 := rfl
    refine ⟨Q, n9, Pl_of hQ, ?_⟩
    generalize uI (uR (uR (uI m1 1 1 (0 : Int32)) 0 9 (some Q)) 0 10 (some P)) 0 11 (0 : Int32) = m4 at w3 f3 n9 n10 cell j11 j011 ⊢
    obtain ⟨c1, c2, c3, c4, c5, c6, c7, c8⟩ := C
    have hst : st ≠ 0 := fun z => by
      rw [z] at hk2
      have h3 : decide ((0 : Nat) = 4 ∨ (0 : Nat) = 5) = true := hk2
      exact absurd h3 (by decide)
    have hr13 : rd ≠ 13 := fun z => hst (V6 z)
    refine ⟨w3, f3, j11, fun q2 h2 => (by cases h2), fun st2 rd2 gm2 us2 fi2 se2 th2 sn2 h2 => ?_⟩
    cases h2
    refine ⟨by rw [cell Q 5 (by omega) (by omega), c2], ⟨n9, n10, by omega⟩, j011, ⟨V2, by omega, V5 hst, by omega⟩, (cell Q 7 (by omega) (by omega)).trans c1, (cell Q 5 (by omega) (by omega)).trans c2, (cell Q 6 (by omega) (by omega)).trans c3, (cell Q 8 (by omega) (by omega)).trans c4, fun j hj => (cell _ j (by omega) (by omega)).trans (c5 j hj), fun j hj => (cell _ j (by omega) (by omega)).trans (c6 j hj), fun j hj => (cell _ j (by omega) (by omega)).trans (c7 j hj), fun ρ h1 h2 => (cell _ ρ (by omega) (by omega)).trans (c8 ρ h1 h2)⟩
theorem e_planC0 {P Q n : Nat} (w : WT m) (hn : m.1 3 3 = nI n) (ht : m.1 1 1 = 0) (hR : PRF m P Q) : Ct ad μX11_plan (d + 4) [.ref (ad 0)] m (fun r m' => WT m' ∧ Fx (RS [0, 7, 44, 54]) m m' ∧ m'.1 1 1 = 0 ∧ r = some (.int 0) ∧ PRF m' Q P ∧ m'.1 0 11 = 0 ∧ m'.1 Q 5 = 0 ∧ m'.1 Q 6 = 0) := by
  obtain ⟨h9, h10, hPQ⟩ := hR
  have hP : P = 134 ∨ P = 140 := by omega
  have hQ : Q = 134 ∨ Q = 140 := by omega
  refine v_X11_plan (d := d + 3) ⟨Q, h10, Pl_of hQ, ?_⟩
  rw [hn]
  refine (e_compP0 (d := d) hQ w ht).to ?_
  rintro r m1 ⟨w1, f1, rfl, z5, z6⟩
  have w2 : WT (uI m1 1 1 (0 : Int32)) := w1.t rfl (by decide) (by decide)
  have f1' : Fx (RS [0, 7]) m m1 := (Fx.rf (S := RS [0, 7])).tr f1 (PR_7 hQ rfl)
  have f2 : Fx (RS [0, 7]) m (uI m1 1 1 (0 : Int32)) := f1'.i rfl
  have r9 : (uI m1 1 1 (0 : Int32)).2.2 0 9 = some P := (f1 0 9 (by unfold PR; omega)).2.2.trans h9
  have r10 : (uI m1 1 1 (0 : Int32)).2.2 0 10 = some Q := (f1 0 10 (by unfold PR; omega)).2.2.trans h10
  refine ⟨-1, rfl, fun _ => ⟨P, r9, Pl_of hP, Q, r10, Pl_of hQ, Q, rfl, Pl_of hQ, ?_⟩, fun z => absurd rfl z⟩
  have c5 : (uI (uR (uR (uI m1 1 1 (0 : Int32)) 0 9 (some Q)) 0 10 (some P)) 0 11 (0 : Int32)).1 Q 5 = 0 := (u_ne (by omega)).trans ((u_ne (by omega)).trans z5)
  have c6 : (uI (uR (uR (uI m1 1 1 (0 : Int32)) 0 9 (some Q)) 0 10 (some P)) 0 11 (0 : Int32)).1 Q 6 = 0 := (u_ne (by omega)).trans ((u_ne (by omega)).trans z6)
  exact ⟨((w2.rP (Or.inl rfl) hQ).rP (Or.inr rfl) hP).n rfl, (((Fx.rf (S := RS [0, 7, 44, 54])).tr f2 (RS_sub rfl)).r rfl |>.r rfl).i rfl, rfl, by rw [c5], ⟨rfl, rfl, by omega⟩, rfl, c5, c6⟩
end PCM
end
section
/-! plan(): THE MODEL -/
section PMM
variable {ad : Nat → Nat} {d : Nat} {m : Wm}
/-- how the model's plan() ends: rounds, games, the row, the place, the fault -/
def plM (m : Wm) (t r' g' : Nat) (np' : Nat → Int32) (p' : Nat) (w' : Int32) (r : Option Value) (m' : Wm) : Prop := WT m' ∧ Fx (RS [20, 21, 22, 25, 27, 52, 55]) m m' ∧ (m'.1 187 14).toInt = 0 ∧
  (w' ≠ -1 → r = some (.int (-1 - w')) ∧ Fx (RS [20, 21, 22, 27]) m m') ∧ (w' = -1 → p' < t → r = some (.int (-1 - nI p')) ∧ Fx (RS [20, 21, 22, 27]) m m') ∧
  (w' = -1 → ¬ p' < t → r = some (.int (nI r')) ∧ m'.1 187 10 = nI g' ∧ m'.1 187 11 = nI r' ∧ m'.1 187 12 = 0 ∧ r' ≤ 12 ∧ g' ≤ 40 ∧ (r' = 0 ∨ 1 ≤ g') ∧ ∀ k, k < 4 * g' → m'.1 194 k = np' k)
theorem e_planM {n t : Nat} (w : WT m) (hn : m.1 187 1 = nI n) (hn8 : n ≤ 8) (ht : m.1 187 14 = nI t) (ht80 : t ≤ 80) : Ct ad μX12_plan (d + 5) [.ref (ad 187)] m (fun r m' => ∃ r' g' np' p' w', (t ≠ 0 → rdF (m.1 195) (minT t 76) n 13 0 0 (m.1 199) (0, -1) = (r', g', np', (p', w'))) ∧ (t = 0 → r' = 0 ∧ g' = 0 ∧ p' = 0 ∧ w' = -1) ∧ plM m t r' g' np' p' w' r m') := by
  generalize hQ : (fun (r : Option Value) (m' : Wm) => ∃ r' g' np' p' w', (t ≠ 0 → rdF (m.1 195) (minT t 76) n 13 0 0 (m.1 199) (0, -1) = (r', g', np', (p', w'))) ∧ (t = 0 → r' = 0 ∧ g' = 0 ∧ p' = 0 ∧ w' = -1) ∧ plM m t r' g' np' p' w' r m') = Q
  have w0 : WT (uI m 187 17 0) := w.n rfl
  have A := pa_text (n := t) (t := 76) (by omega) (by decide)
  have he80 : minT t 76 ≤ 80 := by unfold minT; split <;> omega
  refine v_X12_plan (d := d + 4) ((begin_ok (na := 80) rfl).to ?_)
  rintro _ m1 ⟨rfl, e1⟩
  have e1' : m1 = bgM (uI m 187 17 0) 195 (nI t) (nI 76) := by rw [e1]; show _ = bgM _ _ (nI t) _; rw [← ht]; rfl
  subst e1'
  clear e1
  have f1 : Fx (RS [22]) (uI m 187 17 0) (bgM (uI m 187 17 0) 195 (nI t) (nI 76)) := bg_fx
  have P1 : PS 195 t 76 (minT t 76) ((uI m 187 17 0).1 195) 0 (-1) (bgM (uI m 187 17 0) 195 (nI t) (nI 76)) := bg_ps he80 (by decide)
  have w1 := w0.fx f1
  have F1 : Fx (RS [20, 21, 22, 27]) m (bgM (uI m 187 17 0) 195 (nI t) (nI 76)) := ((Fx.rf (S := RS [20, 21, 22, 27]) (m := m)).i (a := 187) (k := 17) (v := 0) rfl).tr f1 (RS_sub rfl)
  have c199 : (bgM (uI m 187 17 0) 195 (nI t) (nI 76)).1 199 = m.1 199 := rfl
  generalize bgM (uI m 187 17 0) 195 (nI t) (nI 76) = mb at f1 P1 w1 F1 c199 ⊢
  have w2 : WT (uI mb 187 14 0) := w1.t rfl (by decide) (by decide)
  have P2 : PS 195 t 76 (minT t 76) (m.1 195) 0 (-1) (uI mb 187 14 0) := by
    obtain ⟨b1, b2, b3, b4, b5, b6, b7⟩ := P1
    exact ⟨b1, b2, b3, b4, b5, b6, fun k hk => b7 k hk⟩
  have F2 : Fx (RS [20, 21, 22, 27]) m (uI mb 187 14 0) := F1.i rfl
  have z14 : ((uI mb 187 14 0).1 187 14).toInt = 0 := rfl
  have h01 : (uI mb 187 14 0).1 187 1 = nI n := (F2.at (a := 187) (k := 1) (by decide)).trans hn
  have h19 : (uI mb 187 14 0).1 187 19 = nI t := P2.2.1
  have d199 : (uI mb 187 14 0).1 199 = m.1 199 := c199
  generalize uI mb 187 14 0 = mc at w2 P2 F2 z14 h01 h19 d199 ⊢
  refine ⟨rfl, ?_⟩
  have fin : ∀ (m' : Wm) (r' g' : Nat) (np' : Nat → Int32) (p' : Nat) (w' : Int32), (t ≠ 0 → rdF (m.1 195) (minT t 76) n 13 0 0 (m.1 199) (0, -1) = (r', g', np', (p', w'))) → (t = 0 → r' = 0 ∧ g' = 0 ∧ p' = 0 ∧ w' = -1) → PS 195 t 76 (minT t 76) (m.1 195) p' w' m' → m'.1 199 = np' → Fx (RS [22, 27]) mc m' → WT m' → (w' = -1 → r' ≤ 12 ∧ (r' = 0 ∨ 1 ≤ g')) → g' ≤ 40 → r' ≤ 13 →
      AW ad E0 μX12_plan (d + 4 + 1) Q 238 [(0, .ref (ad 187)), (1, .int (nI r')), (2, .int (nI g'))] [] m' := by
    intro m' r' g' np' p' w' hR hR0 h cnp f wt hw hg hr
    have up : ∀ r m3, plM m t r' g' np' p' w' r m3 → Q r m3 := fun r m3 hh => by
      rw [← hQ]
      exact ⟨r', g', np', p', w', hR, hR0, hh⟩
    have G2 : Fx (RS [20, 21, 22, 27]) m m' := F2.tr f (RS_sub rfl)
    have cp : w' = -1 → ¬ p' < t → r' ≤ 12 → (r' = 0 ∨ 1 ≤ g') → ∀ (j x4 : Nat) (m3 : Wm), x4 + j = 4 * g' → WT m3 → Fx (RS [20, 21, 22, 25, 27, 52, 55]) m m3 → (m3.1 187 14).toInt = 0 → m3.1 199 = np' → (∀ k, k < x4 → m3.1 194 k = np' k) → AW ad E0 μX12_plan (d + 4 + 1) Q 274 [(0, .ref (ad 187)), (1, .int (nI r')), (2, .int (nI g')), (4, .int (nI x4))] [] m3 := by
      intro hwm hpt hr12 hrg j
      have l4 : (4 : Int32) * nI g' = nI (4 * g') := l_mul 4 4 rfl g'
      have tr' : (nI r').toInt = (r' : Int) := nI_toInt (by omega)
      have tg' : (nI g').toInt = (g' : Int) := nI_toInt (by omega)
      induction j with
      | zero =>
        intro x4 m3 hx wt3 f3 h14 c3 hc
        obtain rfl : x4 = 4 * g' := hx
        refine g_X12_plan_274 ?_
        rw [l4]
        refine ⟨fun _ => up _ _ ⟨((wt3.t rfl (by omega) (by omega)).t rfl (by omega) (by omega)).n rfl, ((f3.i rfl).i rfl).i rfl, h14, fun q => absurd hwm q, fun _ q => absurd q hpt, fun _ _ => ⟨rfl, rfl, rfl, rfl, hr12, hg, hrg, fun k hk => hc k hk⟩⟩, fun c => absurd ((nI_leI (by omega) (by omega)).mpr (by omega)) c⟩
      | succ j ih =>
        intro x4 m3 hx wt3 f3 h14 c3 hc
        refine g_X12_plan_274 ?_
        rw [l4, nI_1, nI_clamp (by omega)]
        refine ⟨fun c => absurd ((nI_leI (by omega) (by omega)).mp c) (by omega), fun _ => ⟨nat_in (by omega) (by decide), nat_in (by omega) (by decide), ?_⟩⟩
        refine ih (x4 + 1) _ (by omega) ?_ (f3.i rfl) h14 ((uI_cell (by decide)).trans c3) (fun k hk => ?_)
        · by_cases hx4 : x4 % 4 < 2
          · have e9 : TY 199 x4 = some (0, 7) := if_pos hx4
            have e4 : TY 194 x4 = some (0, 7) := if_pos hx4
            have := wt3.at e9
            exact wt3.t e4 this.1 this.2
          · exact wt3.n (if_neg hx4)
        · by_cases hk4 : k = x4
          · subst hk4
            rw [u_eq, c3]
          · exact (u_ne (fun q => hk4 q.2)).trans (hc k (by omega))
    have ps22 : ∀ m3, Fx (RS [22]) m' m3 → m3.1 199 = np' := fun m3 f3 => (fx_cell (ρ := 27) f3 (fun _ => rfl) rfl).trans cnp
    have e257 : ∀ (m3 : Wm) (w3 : Int32), PS 195 t 76 (minT t 76) (m.1 195) p' w3 m3 → Fx (RS [22]) m' m3 → WT m3 → ((w3 = -1 ∧ w' = -1 ∧ ¬ p' < t) ∨ (w3 ≠ -1 ∧ w' = w3) ∨ (w3 = nI p' ∧ w' = -1 ∧ p' < t)) → AW ad E0 μX12_plan (d + 4 + 1) Q 257 [(0, .ref (ad 187)), (1, .int (nI r')), (2, .int (nI g'))] [] m3 := by
      intro m3 w3 h3 f3 wt3 hc
      have G3 : Fx (RS [20, 21, 22, 27]) m m3 := G2.tr f3 (RS_sub rfl)
      have G4 : Fx (RS [20, 21, 22, 25, 27, 52, 55]) m m3 := (Fx.rf (S := RS [20, 21, 22, 25, 27, 52, 55])).tr G3 (RS_sub rfl)
      have e14 : (m3.1 187 14).toInt = 0 := by rw [f3.at (a := 187) (k := 14) (by decide), f.at (a := 187) (k := 14) (by decide)]; exact z14
      have h80 := h3.small A
      refine g_X12_plan_257 ((fine_ok h3).to ?_)
      rintro _ m' ⟨eq, rfl⟩
      obtain rfl := eq.symm
      rcases hc with ⟨c1, c2, c3⟩ | ⟨c1, c2⟩ | ⟨c1, c2, c3⟩
      · refine ⟨1, by rw [if_pos c1], fun _ => ?_, fun c => absurd c (by decide)⟩
        have := hw c2
        exact cp c2 c3 this.1 this.2 (4 * g') 0 m3 (by omega) wt3 G4 e14 (ps22 m3 f3) (fun k hk => absurd hk (Nat.not_lt_zero k))
      · have e22 : m3.1 187 22 = w3 := h3.2.2.2.2.1
        refine ⟨0, by rw [if_neg c1], fun c => absurd rfl c, fun _ => up _ _ ⟨wt3, G4, e14, fun _ => ⟨by rw [e22, c2], G3⟩, fun q => absurd (c2.symm.trans q) c1, fun q => absurd (c2.symm.trans q) c1⟩⟩
      · have e22 : m3.1 187 22 = w3 := h3.2.2.2.2.1
        have c1' : w3 ≠ -1 := fun q => m1_ne p' (by omega) (q.symm.trans c1)
        refine ⟨0, by rw [if_neg c1'], fun c => absurd rfl c, fun _ => up _ _ ⟨wt3, G4, e14, fun q => absurd c2 q, fun _ _ => ⟨by rw [e22, c1], G3⟩, fun _ q => absurd c3 q⟩⟩
    refine g_X12_plan_238 ⟨fun c => e257 m' w' h Fx.rf wt ?_, fun c => (fault_ok A h).to ?_⟩
    · rw [h.2.1, h.2.2.2.1] at c
      have h80 := h.small A
      have c' := (nI_leI (a := t) (b := p') (by omega) (by omega)).mp c
      by_cases hwm : w' = -1
      · exact Or.inl ⟨hwm, hwm, by omega⟩
      · exact Or.inr (Or.inl ⟨hwm, rfl⟩)
    · rw [h.2.1, h.2.2.2.1] at c
      have h80 := h.small A
      have c' : p' < t := Nat.lt_of_not_le (fun q => c ((nI_leI (a := t) (b := p') (by omega) (by omega)).mpr q))
      rintro _ m3 ⟨rfl, h3, f3⟩
      refine ⟨rfl, ?_⟩
      by_cases hwm : w' = -1
      · have e1 : (fltF (m'.1 187 21) (p', w')).2 = nI p' := by
          unfold fltF
          rw [if_pos hwm]
          exact h.2.2.2.1
        rw [e1] at h3
        exact e257 m3 _ h3 f3 (wt.fx f3) (Or.inr (Or.inr ⟨rfl, hwm, c'⟩))
      · rw [flt_d hwm] at h3
        exact e257 m3 _ h3 f3 (wt.fx f3) (Or.inr (Or.inl ⟨hwm, rfl⟩))
  rw [h19]
  refine ⟨fun q => ?_, fun q => ?_⟩
  · have ht0 : t = 0 := by
      by_cases h0 : t = 0
      · exact h0
      · exact absurd q (fun z => nI_nle (by omega) (by omega) z)
    exact g_X12_plan_41 ⟨fun _ => fin mc 0 0 (m.1 199) 0 (-1) (fun z => absurd ht0 z) (fun _ => ⟨rfl, rfl, rfl, rfl⟩) P2 d199 Fx.rf w2 (fun _ => ⟨by decide, Or.inl rfl⟩) (by decide) (by decide), fun c => absurd rfl c⟩
  · have ht0 : t ≠ 0 := fun z => q (by rw [z]; decide)
    exact rd_ok A (n := n) hn8 (by decide) (m0 := mc) h01 13 0 0 (m.1 199) 0 (-1) mc (by decide) (by decide) (fun _ => ⟨by decide, Or.inl rfl⟩) (by decide) P2 d199 Fx.rf w2 (fun m' r' g' np' p' w' hR h c f wt hw hg hr => fin m' r' g' np' p' w' (fun _ => hR) (fun z => absurd z ht0) h c f wt hw hg hr)
end PMM
end
section
/-! EACH WITH EACH -/
def rotN (z : Nat) (f : Nat → Nat) : Nat → Nat := fun k => if k = 0 then f 0 else if k = 1 then f (z - 1) else f (k - 1)
/-- games, the one, the other, its round -/
abbrev CrS : Type := Nat × (Nat → Nat) × (Nat → Nat) × (Nat → Nat)
def cStep (f : Nat → Nat) (n z r k : Nat) (S : CrS) : CrS := if f k < n ∧ f (z - 1 - k) < n then (S.1 + 1, updN S.2.1 S.1 (f k), updN S.2.2.1 S.1 (f (z - 1 - k)), updN S.2.2.2 S.1 r) else S
def cIn (f : Nat → Nat) (n z r : Nat) : Nat → CrS → CrS
  | 0, S => S
  | k + 1, S => cStep f n z r k (cIn f n z r k S)
theorem cIn_s {f : Nat → Nat} {n z r k : Nat} {S : CrS} : cIn f n z r (k + 1) S = cStep f n z r k (cIn f n z r k S) := rfl
def cOut (n z : Nat) : Nat → CrS × (Nat → Nat) × (Nat → Nat)
  | 0 => ((0, (fun _ => 0), (fun _ => 0), (fun _ => 0)), (fun k => k), (fun _ => 0))
  | r + 1 => (cIn (cOut n z r).2.1 n z r (z / 2) (cOut n z r).1, rotN z (cOut n z r).2.1, updN (cOut n z r).2.2 r (cOut n z r).1.1)
theorem cIn_le {f : Nat → Nat} {n z r : Nat} {S : CrS} : ∀ k, S.1 ≤ (cIn f n z r k S).1 ∧ (cIn f n z r k S).1 ≤ S.1 + k := by
  intro k
  induction k with
  | zero => exact ⟨Nat.le_refl _, Nat.le_refl _⟩
  | succ k ih =>
    show S.1 ≤ (cStep f n z r k (cIn f n z r k S)).1 ∧ (cStep f n z r k (cIn f n z r k S)).1 ≤ S.1 + (k + 1)
    unfold cStep
    by_cases h : f k < n ∧ f (z - 1 - k) < n
    · rw [if_pos h]; dsimp only; omega
    · rw [if_neg h]; omega
theorem cOut_le {n z : Nat} (hz : z ≤ 8) : ∀ r, (cOut n z r).1.1 ≤ 4 * r := by
  intro r
  induction r with
  | zero => exact Nat.le_refl _
  | succ r ih =>
    have := (cIn_le (f := (cOut n z r).2.1) (n := n) (z := z) (r := r) (S := (cOut n z r).1) (z / 2)).2
    show (cIn (cOut n z r).2.1 n z r (z / 2) (cOut n z r).1).1 ≤ 4 * (r + 1)
    omega
theorem cOut_f {n z : Nat} (hz : 2 ≤ z) : ∀ r k, k < z → (cOut n z r).2.1 k < z := by
  intro r
  induction r with
  | zero => intro k hk; exact hk
  | succ r ih =>
    intro k hk
    show rotN z (cOut n z r).2.1 k < z
    unfold rotN
    by_cases h0 : k = 0
    · rw [if_pos h0]; exact ih 0 (by omega)
    · rw [if_neg h0]
      by_cases h1 : k = 1
      · rw [if_pos h1]; exact ih (z - 1) (by omega)
      · rw [if_neg h1]; exact ih (k - 1) (by omega)
theorem cOut_inj {n z : Nat} (hz : 2 ≤ z) : ∀ r a b, a < z → b < z → (cOut n z r).2.1 a = (cOut n z r).2.1 b → a = b := by
  intro r
  induction r with
  | zero => intro a b _ _ h; exact h
  | succ r ih =>
    intro a b ha hb h
    have h' : rotN z (cOut n z r).2.1 a = rotN z (cOut n z r).2.1 b := h
    unfold rotN at h'
    by_cases a0 : a = 0
    · by_cases b0 : b = 0
      · omega
      · by_cases b1 : b = 1
        · rw [if_pos a0, if_neg b0, if_pos b1] at h'
          have := ih 0 (z - 1) (by omega) (by omega) h'; omega
        · rw [if_pos a0, if_neg b0, if_neg b1] at h'
          have := ih 0 (b - 1) (by omega) (by omega) h'; omega
    · by_cases a1 : a = 1
      · by_cases b0 : b = 0
        · rw [if_neg a0, if_pos a1, if_pos b0] at h'
          have := ih (z - 1) 0 (by omega) (by omega) h'; omega
        · by_cases b1 : b = 1
          · omega
          · rw [if_neg a0, if_pos a1, if_neg b0, if_neg b1] at h'
            have := ih (z - 1) (b - 1) (by omega) (by omega) h'; omega
      · by_cases b0 : b = 0
        · rw [if_neg a0, if_neg a1, if_pos b0] at h'
          have := ih (a - 1) 0 (by omega) (by omega) h'; omega
        · by_cases b1 : b = 1
          · rw [if_neg a0, if_neg a1, if_neg b0, if_pos b1] at h'
            have := ih (a - 1) (z - 1) (by omega) (by omega) h'; omega
          · rw [if_neg a0, if_neg a1, if_neg b0, if_neg b1] at h'
            have := ih (a - 1) (b - 1) (by omega) (by omega) h'; omega
/-- a plan in its rounds -/
def OG (n R g : Nat) (A B C T : Nat → Nat) : Prop := (∀ j, j < g → A j < n ∧ B j < n ∧ A j ≠ B j ∧ C j < R ∧ T (C j) ≤ j ∧ (C j + 1 < R → j < T (C j + 1))) ∧ (∀ ρ, ρ < R → T ρ ≤ g ∧ (ρ + 1 < R → T ρ ≤ T (ρ + 1))) ∧ (0 < R → T 0 = 0) ∧ (R = 0 → g = 0)
theorem OG.opn {n R g : Nat} {A B C T : Nat → Nat} (h : OG n R g A B C T) : OG n (R + 1) g A B C (updN T R g) := by
  obtain ⟨h1, h2, h3, h4⟩ := h
  refine ⟨fun j hj => ?_, fun ρ hρ => ?_, fun _ => ?_, fun z => by omega⟩
  · obtain ⟨a, b, c, e, f, g'⟩ := h1 j hj
    refine ⟨a, b, c, by omega, ?_, fun hc => ?_⟩
    · rw [updN_n (by omega)]; exact f
    · by_cases q : C j + 1 = R
      · rw [q, updN_e]; exact hj
      · rw [updN_n q]; exact g' (by omega)
  · by_cases q : ρ = R
    · subst q; rw [updN_e]; exact ⟨Nat.le_refl _, fun z => by omega⟩
    · obtain ⟨a, b⟩ := h2 ρ (by omega)
      rw [updN_n q]
      refine ⟨a, fun hc => ?_⟩
      by_cases q2 : ρ + 1 = R
      · rw [q2, updN_e]; exact a
      · rw [updN_n q2]; exact b (by omega)
  · by_cases q : R = 0
    · subst q; rw [updN_e]; exact h4 rfl
    · rw [updN_n (by omega)]; exact h3 (by omega)
theorem OG.add {n r g : Nat} {A B C T : Nat → Nat} {a b : Nat} (h : OG n (r + 1) g A B C T) (ha : a < n) (hb : b < n) (hab : a ≠ b) : OG n (r + 1) (g + 1) (updN A g a) (updN B g b) (updN C g r) T := by
  obtain ⟨h1, h2, h3, h4⟩ := h
  refine ⟨fun j hj => ?_, fun ρ hρ => ?_, h3, fun z => by omega⟩
  · by_cases q : j = g
    · subst q
      rw [updN_e, updN_e, updN_e]
      exact ⟨ha, hb, hab, by omega, (h2 r (by omega)).1, fun z => by omega⟩
    · rw [updN_n q, updN_n q, updN_n q]
      exact h1 j (by omega)
  · obtain ⟨a, b⟩ := h2 ρ hρ
    exact ⟨by omega, b⟩
theorem cIn_og {f : Nat → Nat} {n z r : Nat} {S : CrS} {T : Nat → Nat} (hi : ∀ a b, a < z → b < z → f a = f b → a = b) (h : OG n (r + 1) S.1 S.2.1 S.2.2.1 S.2.2.2 T) : ∀ k, k ≤ z / 2 → OG n (r + 1) (cIn f n z r k S).1 (cIn f n z r k S).2.1 (cIn f n z r k S).2.2.1 (cIn f n z r k S).2.2.2 T := by
  intro k
  induction k with
  | zero => intro _; exact h
  | succ k ih =>
    intro hk
    have h0 := ih (by omega)
    show OG n (r + 1) (cStep f n z r k (cIn f n z r k S)).1 (cStep f n z r k (cIn f n z r k S)).2.1 (cStep f n z r k (cIn f n z r k S)).2.2.1 (cStep f n z r k (cIn f n z r k S)).2.2.2 T
    generalize cIn f n z r k S = S2 at h0 ⊢
    unfold cStep
    by_cases c : f k < n ∧ f (z - 1 - k) < n
    · rw [if_pos c]
      exact h0.add c.1 c.2 (fun q => by have := hi k (z - 1 - k) (by omega) (by omega) q; omega)
    · rw [if_neg c]; exact h0
theorem cOut_og {n z : Nat} (hz : 2 ≤ z) : ∀ r, OG n r (cOut n z r).1.1 (cOut n z r).1.2.1 (cOut n z r).1.2.2.1 (cOut n z r).1.2.2.2 (cOut n z r).2.2 := by
  intro r
  induction r with
  | zero => exact ⟨fun j hj => absurd hj (Nat.not_lt_zero j), fun ρ hρ => absurd hρ (Nat.not_lt_zero ρ), fun z => absurd z (Nat.lt_irrefl 0), fun _ => rfl⟩
  | succ r ih => exact cIn_og (cOut_inj hz r) ih.opn (z / 2) (Nat.le_refl _)
def CRel (A B : Nat → Nat) (g : Nat) (fi se th : Nat → Int32) : Prop := ∀ j, j < g → fi j = nI (A j) ∧ se j = nI (B j) ∧ th j = 0
section CRC
variable {ad : Nat → Nat} {d : Nat} {m m0 : Wm} {P n z : Nat}
theorem e_turn (hP : P = 134 ∨ P = 140) (hz : 2 ≤ z) (hz8 : z ≤ 8) {f : Nat → Nat} (w : WT m) (fx : Fx (PR P) m0 m) (hf : ∀ k, k < z → f k < z) (h : ∀ k, k < z → m.1 (P + 5) k = nI (f k)) : Ct ad μX3_turnPlaces d [.ref (ad P), .int (nI z)] m (fun r m' => r = none ∧ WT m' ∧ Fx (PR P) m0 m' ∧ (∀ k, k < z → m'.1 (P + 5) k = nI (rotN z f k)) ∧ ∀ b k, b ≠ P + 5 → m'.1 b k = m.1 b k) := by
  have e1 : nI z - 1 = nI (z - 1) := nI_sb (b := 1) (by omega) (by omega)
  have wt5 : ∀ {m1 : Wm} {k : Nat} {v : Nat}, WT m1 → v < z → WT (uI m1 (P + 5) k (nI v)) := by
    intro m1 k v w1 hv
    have tv : (nI v).toInt = v := nI_toInt (by omega)
    rcases hP with rfl | rfl
    · exact w1.t rfl (by omega) (by omega)
    · exact w1.t rfl (by omega) (by omega)
  have L : ∀ (k : Nat) (m1 : Wm), 1 ≤ k → k < z → WT m1 → Fx (PR P) m0 m1 → (∀ j, j ≤ k → m1.1 (P + 5) j = nI (f j)) → (∀ j, k < j → j < z → m1.1 (P + 5) j = nI (f (j - 1))) → (∀ b k, b ≠ P + 5 → m1.1 b k = m.1 b k) →
      AW ad E0 μX3_turnPlaces d (fun r m' => r = none ∧ WT m' ∧ Fx (PR P) m0 m' ∧ (∀ k, k < z → m'.1 (P + 5) k = nI (rotN z f k)) ∧ ∀ b k, b ≠ P + 5 → m'.1 b k = m.1 b k) 13 [(0, .ref (ad P)), (2, .int (nI (f (z - 1)))), (3, .int (nI k))] [] m1 := by
    intro k
    induction k with
    | zero => intro _ h; omega
    | succ k ih =>
      intro m1 h1 hk w1 f1 r1 r2 r3
      by_cases hk0 : k = 0
      · subst hk0
        refine g_X3_turnPlaces_13 (Pl_of hP) ⟨fun _ => ⟨rfl, wt5 w1 (hf _ (by omega)), fP hP rfl f1 (by decide), fun j hj => ?_, fun b j hb => (u_ne (fun q => hb q.1)).trans (r3 b j hb)⟩, fun c => absurd (by decide) c⟩
        unfold rotN
        have e11 : (1 : Int32).toNatClampNeg = 1 := rfl
        rw [e11]
        by_cases hj1 : j = 1
        · rw [hj1, if_neg (by decide), if_pos rfl]
          exact u_eq
        · rw [if_neg hj1]
          refine (u_ne (fun q => hj1 q.2)).trans ?_
          by_cases hj0 : j = 0
          · rw [if_pos hj0, hj0]; exact r1 0 (by omega)
          · rw [if_neg hj0]; exact r2 j (by omega) hj
      · refine g_X3_turnPlaces_13 (Pl_of hP) ⟨fun c => absurd ((l_le 1 1 rfl (by decide) (by omega)).mp c) (by omega), fun _ => ?_⟩
        rw [nI_pred, nI_dn (by omega), nI_clamp (by omega), nI_clamp (by omega), r1 k (by omega)]
        refine ⟨nat_in (by omega) (by decide), nat_in (by omega) (by decide), ih _ (by omega) (by omega) (wt5 w1 (hf k (by omega))) (fP hP rfl f1 (by decide)) (fun j hj => (u_ne (by omega)).trans (r1 j (by omega))) (fun j hj1 hj2 => ?_) (fun b j hb => (u_ne (fun q => hb q.1)).trans (r3 b j hb))⟩
        by_cases hjk : j = k + 1
        · rw [hjk, Nat.add_sub_cancel]; exact u_eq
        · exact (u_ne (fun q => hjk q.2)).trans (r2 j (by omega) hj2)
  refine v_X3_turnPlaces (Pl_of hP) ?_
  rw [e1, nI_clamp (by omega), h (z - 1) (by omega)]
  exact ⟨nat_in (by omega) (by decide), L (z - 1) m (by omega) (by omega) w fx (fun j hj => h j (by omega)) (fun j h1 h2 => absurd h2 (by omega)) (fun _ _ _ => rfl)⟩
def ciC (m0 : Wm) (P n z : Nat) (r : Option Value) (m' : Wm) : Prop := r = none ∧ WT m' ∧ Fx (PR P) m0 m' ∧ m'.1 P 5 = nI (z - 1) ∧ m'.1 P 6 = nI (cOut n z (z - 1)).1.1 ∧ CRel (cOut n z (z - 1)).1.2.1 (cOut n z (z - 1)).1.2.2.1 (cOut n z (z - 1)).1.1 (m'.1 (P + 1)) (m'.1 (P + 2)) (m'.1 (P + 3)) ∧ ∀ ρ, ρ < z - 1 → m'.1 (P + 4) ρ = nI ((cOut n z (z - 1)).2.2 ρ)
theorem e_fill (hP : P = 134 ∨ P = 140) (hn2 : 2 ≤ n) (hn8 : n ≤ 8) (hz : z = n + n % 2) (w : WT m) : Ct ad μX3_fillEachWithEach (d + 2) [.ref (ad P), .int (nI n)] m (ciC m P n z) := by
  have z8 : z ≤ 8 := by omega
  have z2 : 2 ≤ z := by omega
  have ez1 : nI z - 1 = nI (z - 1) := nI_sb (b := 1) (by omega) (by omega)
  have ez2 : nI z / 2 = nI (z / 2) := pk_div (a := z) (d := 2) (by omega) (by decide) (by decide)
  have wt5 : ∀ {m1 : Wm} {k : Nat} {v : Nat}, WT m1 → v < z → WT (uI m1 (P + 5) k (nI v)) := by
    intro m1 k v w1 hv
    have tv : (nI v).toInt = v := nI_toInt (by omega)
    rcases hP with rfl | rfl
    · exact w1.t rfl (by omega) (by omega)
    · exact w1.t rfl (by omega) (by omega)
  -- the rounds
  have RL : ∀ (i r : Nat) (m1 : Wm), r + i = z - 1 → WT m1 → Fx (PR P) m m1 → m1.1 P 5 = nI r → m1.1 P 6 = nI (cOut n z r).1.1 → CRel (cOut n z r).1.2.1 (cOut n z r).1.2.2.1 (cOut n z r).1.1 (m1.1 (P + 1)) (m1.1 (P + 2)) (m1.1 (P + 3)) → (∀ ρ, ρ < r → m1.1 (P + 4) ρ = nI ((cOut n z r).2.2 ρ)) → (∀ k, k < z → m1.1 (P + 5) k = nI ((cOut n z r).2.1 k)) →
      AW ad E0 μX3_fillEachWithEach (d + 2) (ciC m P n z) 37 [(0, .ref (ad P)), (1, .int (nI n)), (2, .int (nI z)), (3, .int (nI r))] [] m1 := by
    intro i
    induction i with
    | zero =>
      intro r m1 hr w1 f1 h5 h6 hC hS _
      obtain rfl : r = z - 1 := by omega
      refine g_X3_fillEachWithEach_37 (Pl_of hP) ?_
      rw [ez1]
      exact ⟨fun _ => ⟨rfl, w1, f1, h5, h6, hC, hS⟩, fun c => absurd (nI_le (Nat.le_refl _) (by omega)) c⟩
    | succ i ih =>
      intro r m1 hr w1 f1 h5 h6 hC hS hf
      refine g_X3_fillEachWithEach_37 (Pl_of hP) ?_
      rw [ez1]
      refine ⟨fun c => absurd ((nI_leI (by omega) (by omega)).mp c) (by omega), fun _ => (e_openR hP w1 f1 h5 h6 (by omega) (by have := cOut_le (n := n) (z := z) z8 r; omega)).to ?_⟩
      rintro _ m2 ⟨rfl, w2, f2, k5, k6, -, -, k9, k10, k11, -, k13⟩
      refine ⟨rfl, ?_⟩
      have g0 := cOut_le (n := n) (z := z) z8 r
      have ff := cOut_f (n := n) z2 r
      have hS2 : ∀ ρ, ρ < r + 1 → m2.1 (P + 4) ρ = nI (updN (cOut n z r).2.2 r (cOut n z r).1.1 ρ) := fun ρ hρ => by
        by_cases h : ρ = r
        · rw [h, updN_e]; exact k11 (by omega)
        · rw [updN_n h]; exact (k10 ρ (by omega)).trans (hS ρ (by omega))
      have hC2 : CRel (cOut n z r).1.2.1 (cOut n z r).1.2.2.1 (cOut n z r).1.1 (m2.1 (P + 1)) (m2.1 (P + 2)) (m2.1 (P + 3)) := fun j hj => by
        rw [k9 1 j (by decide) (by decide), k9 2 j (by decide) (by decide), k9 3 j (by decide) (by decide)]
        exact hC j hj
      have hf2 : ∀ k, k < z → m2.1 (P + 5) k = nI ((cOut n z r).2.1 k) := fun k hk => (k13 k).trans (hf k hk)
      have IL : ∀ (i k : Nat) (m3 : Wm), k + i = z / 2 → WT m3 → Fx (PR P) m m3 → m3.1 P 5 = nI (r + 1) → m3.1 P 6 = nI (cIn (cOut n z r).2.1 n z r k (cOut n z r).1).1 → CRel (cIn (cOut n z r).2.1 n z r k (cOut n z r).1).2.1 (cIn (cOut n z r).2.1 n z r k (cOut n z r).1).2.2.1 (cIn (cOut n z r).2.1 n z r k (cOut n z r).1).1 (m3.1 (P + 1)) (m3.1 (P + 2)) (m3.1 (P + 3)) → (∀ ρ, ρ < r + 1 → m3.1 (P + 4) ρ = nI (updN (cOut n z r).2.2 r (cOut n z r).1.1 ρ)) → (∀ k, k < z → m3.1 (P + 5) k = nI ((cOut n z r).2.1 k)) →
          AW ad E0 μX3_fillEachWithEach (d + 2) (ciC m P n z) 51 [(0, .ref (ad P)), (1, .int (nI n)), (2, .int (nI z)), (3, .int (nI r)), (4, .int (nI k))] [] m3 := by
        intro i
        induction i with
        | zero =>
          intro k m3 hk w3 f3 a5 a6 aC aS af
          obtain rfl : k = z / 2 := by omega
          refine g_X3_fillEachWithEach_51 (Pl_of hP) ?_
          rw [ez2]
          refine ⟨fun _ => (e_turn (d := d + 1) hP z2 z8 w3 f3 ff af).to ?_, fun c => absurd (nI_le (Nat.le_refl _) (by omega)) c⟩
          rintro _ m4 ⟨rfl, w4, f4, b5, b6⟩
          refine ⟨rfl, ?_⟩
          rw [nI_1]
          refine ih (r + 1) m4 (by omega) w4 f4 ((b6 P 5 (by omega)).trans a5) ((b6 P 6 (by omega)).trans a6) (fun j hj => ?_) (fun ρ hρ => (b6 _ ρ (by omega)).trans (aS ρ hρ)) b5
          rw [b6 (P + 1) j (by omega), b6 (P + 2) j (by omega), b6 (P + 3) j (by omega)]
          exact aC j hj
        | succ i ih2 =>
          intro k m3 hk w3 f3 a5 a6 aC aS af
          have hkz : k < z := by omega
          have ek : nI z - 1 - nI k = nI (z - 1 - k) := by rw [ez1]; exact nI_sb (by omega) (by omega)
          have f1' := ff k hkz
          have f2' := ff (z - 1 - k) (by omega)
          have lei := (cIn_le (f := (cOut n z r).2.1) (n := n) (z := z) (r := r) (S := (cOut n z r).1) k).2
          refine g_X3_fillEachWithEach_51 (Pl_of hP) ?_
          rw [ez2, ek, nI_clamp (by omega), nI_clamp (by omega), af k hkz, af (z - 1 - k) (by omega), nI_1, nI_1]
          have skip : ¬ ((cOut n z r).2.1 k < n ∧ (cOut n z r).2.1 (z - 1 - k) < n) → AW ad E0 μX3_fillEachWithEach (d + 2) (ciC m P n z) 51 [(0, .ref (ad P)), (1, .int (nI n)), (2, .int (nI z)), (3, .int (nI r)), (4, .int (nI (k + 1)))] [] m3 := fun hn => by
            have e : cIn (cOut n z r).2.1 n z r (k + 1) (cOut n z r).1 = cIn (cOut n z r).2.1 n z r k (cOut n z r).1 := by
              rw [cIn_s]
              unfold cStep
              rw [if_neg hn]
            exact ih2 (k + 1) m3 (by omega) w3 f3 a5 (by rw [e]; exact a6) (by rw [e]; exact aC) aS af
          refine ⟨fun c => absurd ((nI_leI (by omega) (by omega)).mp c) (by omega), fun _ => ⟨nat_in (by omega) (by decide), nat_in (by omega) (by decide), fun c => skip (fun q => ?_), fun c1 => ⟨fun c => skip (fun q => ?_), fun c2 => ?_⟩⟩⟩
          · have := (nI_leI (by omega) (by omega)).mp c; omega
          · have := (nI_leI (by omega) (by omega)).mp c; omega
          · have h1 : (cOut n z r).2.1 k < n := Nat.lt_of_not_le (fun q => c1 ((nI_leI (by omega) (by omega)).mpr q))
            have h2 : (cOut n z r).2.1 (z - 1 - k) < n := Nat.lt_of_not_le (fun q => c2 ((nI_leI (by omega) (by omega)).mpr q))
            refine (e_addG (d := d + 1) hP a6 (by omega)).to ?_
            rintro _ m4 ⟨rfl, e⟩
            subst e
            refine ⟨rfl, ?_⟩
            have e : cIn (cOut n z r).2.1 n z r (k + 1) (cOut n z r).1 = ((cIn (cOut n z r).2.1 n z r k (cOut n z r).1).1 + 1, updN (cIn (cOut n z r).2.1 n z r k (cOut n z r).1).2.1 (cIn (cOut n z r).2.1 n z r k (cOut n z r).1).1 ((cOut n z r).2.1 k), updN (cIn (cOut n z r).2.1 n z r k (cOut n z r).1).2.2.1 (cIn (cOut n z r).2.1 n z r k (cOut n z r).1).1 ((cOut n z r).2.1 (z - 1 - k)), updN (cIn (cOut n z r).2.1 n z r k (cOut n z r).1).2.2.2 (cIn (cOut n z r).2.1 n z r k (cOut n z r).1).1 r) := by
              rw [cIn_s]
              unfold cStep
              rw [if_pos ⟨h1, h2⟩]
            have t1 : (nI ((cOut n z r).2.1 k)).toInt = (cOut n z r).2.1 k := nI_toInt (by omega)
            have t2 : (nI ((cOut n z r).2.1 (z - 1 - k))).toInt = (cOut n z r).2.1 (z - 1 - k) := nI_toInt (by omega)
            refine ih2 (k + 1) _ (by omega) (wP6 hP (wPc hP (wPb hP (wPa hP w3 (by omega) (by omega)) (by omega) (by omega))) (by omega)) (fP0 hP rfl (fP hP rfl (fP hP rfl (fP hP rfl f3 (by decide)) (by decide)) (by decide))) ?_ ?_ ?_ (fun ρ hρ => ?_) (fun j hj => ?_)
            · exact (u_ne (by omega)).trans ((u_ne (by omega)).trans ((u_ne (by omega)).trans ((u_ne (by omega)).trans a5)))
            · rw [e]; exact u_eq
            · rw [e]
              generalize cIn (cOut n z r).2.1 n z r k (cOut n z r).1 = S at aC
              obtain ⟨g, A, B, C⟩ := S
              dsimp only at aC ⊢
              intro j hj
              by_cases hjg : j = g
              · subst hjg
                rw [updN_e, updN_e]
                exact ⟨(u_ne (by omega)).trans ((u_ne (by omega)).trans ((u_ne (by omega)).trans u_eq)), (u_ne (by omega)).trans ((u_ne (by omega)).trans u_eq), (u_ne (by omega)).trans u_eq⟩
              · rw [updN_n hjg, updN_n hjg]
                obtain ⟨b1, b2, b3⟩ := aC j (by omega)
                exact ⟨(u_ne (by omega)).trans ((u_ne (by omega)).trans ((u_ne (by omega)).trans ((u_ne (by omega)).trans b1))), (u_ne (by omega)).trans ((u_ne (by omega)).trans ((u_ne (by omega)).trans ((u_ne (by omega)).trans b2))), (u_ne (by omega)).trans ((u_ne (by omega)).trans ((u_ne (by omega)).trans ((u_ne (by omega)).trans b3)))⟩
            · exact (u_ne (by omega)).trans ((u_ne (by omega)).trans ((u_ne (by omega)).trans ((u_ne (by omega)).trans (aS ρ hρ))))
            · exact (u_ne (by omega)).trans ((u_ne (by omega)).trans ((u_ne (by omega)).trans ((u_ne (by omega)).trans (af j hj))))
      exact IL (z / 2) 0 m2 (by omega) w2 f2 k5 k6 hC2 hS2 hf2
  refine v_X3_fillEachWithEach (d := d + 1) (Pl_of hP) ((e_clearP (Pl_of hP)).to ?_)
  rintro _ m1 ⟨rfl, e⟩
  subst e
  refine ⟨rfl, ?_⟩
  have ez : (if (8 : Int32) < (nI n + (nI n &&& (1 : Int32))) then (8 : Int32) else (nI n + (nI n &&& (1 : Int32)))) = nI z := by
    subst hz
    have h : ∀ n : Fin 9, (if (8 : Int32) < (nI n.val + (nI n.val &&& (1 : Int32))) then (8 : Int32) else (nI n.val + (nI n.val &&& (1 : Int32)))) = nI (n.val + n.val % 2) := by decide +kernel
    exact h ⟨n, by omega⟩
  rw [ez]
  have w1 : WT (uI (uI m P 5 0) P 6 0) := wP6 (v := 0) hP (wP5 (v := 0) hP w (by decide)) (by decide)
  have f1 : Fx (PR P) m (uI (uI m P 5 0) P 6 0) := fP0 hP rfl (fP0 hP rfl Fx.rf)
  have PL : ∀ (i k : Nat) (m1 : Wm), k + i = z → WT m1 → Fx (PR P) m m1 → m1.1 P 5 = nI 0 → m1.1 P 6 = nI 0 → (∀ j, j < k → m1.1 (P + 5) j = nI j) →
      AW ad E0 μX3_fillEachWithEach (d + 2) (ciC m P n z) 17 [(0, .ref (ad P)), (1, .int (nI n)), (2, .int (nI z)), (3, .int (nI k))] [] m1 := by
    intro i
    induction i with
    | zero =>
      intro k m1 hk w1 f1 a5 a6 af
      obtain rfl : k = z := hk
      refine g_X3_fillEachWithEach_17 (Pl_of hP) ⟨fun _ => RL (k - 1) 0 m1 (by omega) w1 f1 a5 a6 (fun j hj => absurd hj (Nat.not_lt_zero j)) (fun ρ hρ => absurd hρ (Nat.not_lt_zero ρ)) af, fun c => absurd (nI_le (Nat.le_refl _) (by omega)) c⟩
    | succ i ih =>
      intro k m1 hk w1 f1 a5 a6 af
      refine g_X3_fillEachWithEach_17 (Pl_of hP) ⟨fun c => absurd ((nI_leI (by omega) (by omega)).mp c) (by omega), fun _ => ⟨nat_in (by omega) (by decide), ?_⟩⟩
      rw [nI_1, nI_clamp (by omega)]
      refine ih (k + 1) _ (by omega) (wt5 w1 (by omega)) (fP hP rfl f1 (by decide)) ((u_ne (by omega)).trans a5) ((u_ne (by omega)).trans a6) (fun j hj => ?_)
      by_cases hjk : j = k
      · rw [hjk]; exact u_eq
      · exact (u_ne (fun q => hjk q.2)).trans (af j (by omega))
  exact PL z 0 _ (by omega) w1 f1 ((u_ne (by omega)).trans u_eq) u_eq (fun j hj => absurd hj (Nat.not_lt_zero j))
theorem e_circleC {Q : Nat} (w : WT m) (hn : m.1 3 3 = nI n) (hn8 : n ≤ 8) (hR : PRF m P Q) : Ct ad μX11_circle (d + 3) [.ref (ad 0)] m (fun r m' => WT m' ∧ Fx (RS [7, 44]) m m' ∧ PRF m' P Q ∧ ((n < 2 ∧ r = some (.int (-1)) ∧ m' = m) ∨ (2 ≤ n ∧ r = some (.int (nI (n + n % 2 - 1))) ∧ m'.1 0 11 = 0 ∧ m'.1 P 5 = nI (n + n % 2 - 1) ∧ m'.1 P 6 = nI (cOut n (n + n % 2) (n + n % 2 - 1)).1.1 ∧ CRel (cOut n (n + n % 2) (n + n % 2 - 1)).1.2.1 (cOut n (n + n % 2) (n + n % 2 - 1)).1.2.2.1 (cOut n (n + n % 2) (n + n % 2 - 1)).1.1 (m'.1 (P + 1)) (m'.1 (P + 2)) (m'.1 (P + 3)) ∧ ∀ ρ, ρ < n + n % 2 - 1 → m'.1 (P + 4) ρ = nI ((cOut n (n + n % 2) (n + n % 2 - 1)).2.2 ρ)))) := by
  have hR0 := hR
  obtain ⟨h9, h10, hPQ⟩ := hR
  have hP : P = 134 ∨ P = 140 := by omega
  refine v_X11_circle (d := d + 2) ?_
  rw [hn]
  refine ⟨fun c => ?_, fun c => ⟨w, Fx.rf, hR0, Or.inl ⟨?_, rfl, rfl⟩⟩⟩
  · have hn2 := (le_l 2 2 rfl (by decide) (by omega)).mp c
    refine ⟨P, h9, Pl_of hP, (e_fill (d := d) hP hn2 hn8 rfl w).to ?_⟩
    rintro _ m1 ⟨rfl, w1, f1, a5, a6, aC, aS⟩
    have r9 : (uI m1 0 11 (0 : Int32)).2.2 0 9 = some P := (f1 0 9 (by unfold PR; omega)).2.2.trans h9
    have r10 : (uI m1 0 11 (0 : Int32)).2.2 0 10 = some Q := (f1 0 10 (by unfold PR; omega)).2.2.trans h10
    have b5 : (uI m1 0 11 (0 : Int32)).1 P 5 = nI (n + n % 2 - 1) := (u_ne (by omega)).trans a5
    refine ⟨rfl, P, r9, Pl_of hP, w1.n rfl, ((Fx.rf (S := RS [7, 44])).tr f1 (PR_7 hP rfl)).i rfl, ⟨r9, r10, hPQ⟩, Or.inr ⟨hn2, by rw [b5], rfl, b5, (u_ne (by omega)).trans a6, fun j hj => ?_, fun ρ hρ => (u_ne (by omega)).trans (aS ρ hρ)⟩⟩
    rw [u_ne (by omega), u_ne (by omega), u_ne (by omega)]
    exact aC j hj
  · exact Nat.lt_of_not_le (fun q => c ((le_l 2 2 rfl (by decide) (by omega)).mpr q))
end CRC
end
section
/-! EACH WITH EACH: THE MODEL -/
def MRel (A B C : Nat → Nat) (g : Nat) (np : Nat → Int32) : Prop := ∀ j, j < g → np (4 * j) = nI (A j) ∧ np (4 * j + 1) = nI (B j) ∧ np (4 * j + 2) = 0 ∧ np (4 * j + 3) = nI (C j)
section CRM
variable {ad : Nat → Nat} {d : Nat} {m : Wm} {n : Nat}
def ciM (m : Wm) (n z : Nat) (r : Option Value) (m' : Wm) : Prop := WT m' ∧ Fx (RS [20, 25, 32, 52, 55]) m m' ∧ ((n < 2 ∧ r = some (.int (-1)) ∧ Fx (RS [20]) m m') ∨ (2 ≤ n ∧ r = some (.int (nI (z - 1))) ∧ m'.1 187 11 = nI (z - 1) ∧ m'.1 187 12 = 0 ∧ m'.1 187 10 = nI (cOut n z (z - 1)).1.1 ∧ MRel (cOut n z (z - 1)).1.2.1 (cOut n z (z - 1)).1.2.2.1 (cOut n z (z - 1)).1.2.2.2 (cOut n z (z - 1)).1.1 (m'.1 194)))
theorem e_circleM (w : WT m) (hn : m.1 187 1 = nI n) (hn8 : n ≤ 8) : Ct ad μX12_circle (d + 2) [.ref (ad 187)] m (ciM m n (n + n % 2)) := by
  have w0 : WT (uI m 187 17 0) := w.n rfl
  have F0 : Fx (RS [20, 25, 32, 52, 55]) m (uI m 187 17 0) := (Fx.rf (S := RS [20, 25, 32, 52, 55]) (m := m)).i (a := 187) (k := 17) rfl
  have es0 : (uI m 187 17 0).1 187 1 = nI n := hn
  refine v_X12_circle (d := d + 1) ?_
  rw [es0]
  refine ⟨fun c => ?_, fun c => ⟨w0, F0, Or.inl ⟨Nat.lt_of_not_le (fun q => c ((le_l 2 2 rfl (by decide) (by omega)).mpr q)), rfl, Fx.rf.i rfl⟩⟩⟩
  have hn2 : 2 ≤ n := (le_l 2 2 rfl (by omega) (by omega)).mp c
  have er : nI n - nI n / 2 * 2 = nI (n % 2) := nI_rem (g := n) (G := 2) (by omega) (by decide) (by decide)
  rw [er, nI_add]
  obtain ⟨z, hz⟩ : ∃ z, n + n % 2 = z := ⟨_, rfl⟩
  rw [hz]
  have z8 : z ≤ 8 := by omega
  have z2 : 2 ≤ z := by omega
  have ez1 : nI z - 1 = nI (z - 1) := nI_sb (b := 1) (by omega) (by omega)
  have ez2 : nI z / 2 = nI (z / 2) := pk_div (a := z) (d := 2) (by omega) (by decide) (by decide)
  have sid : ∀ m1, Fx (RS [20, 25, 32, 52, 55]) m m1 → m1.1 187 1 = nI n := fun m1 f1 => (f1.at (by decide)).trans hn
  have wt203 : ∀ {m1 : Wm} {k v : Nat}, WT m1 → v < z → WT (uI m1 203 k (nI v)) := by
    intro m1 k v w1 hv
    have tv : (nI v).toInt = v := nI_toInt (by omega)
    exact w1.t rfl (by omega) (by omega)
  -- the rounds
  have R : ∀ (i r : Nat) (m1 : Wm), r + i = z - 1 → WT m1 → Fx (RS [20, 25, 32, 52, 55]) m m1 → m1.1 187 10 = nI (cOut n z r).1.1 → MRel (cOut n z r).1.2.1 (cOut n z r).1.2.2.1 (cOut n z r).1.2.2.2 (cOut n z r).1.1 (m1.1 194) → (∀ k, k < z → m1.1 203 k = nI ((cOut n z r).2.1 k)) →
      AW ad E0 μX12_circle (d + 1 + 1) (ciM m n z) 54 [(0, .ref (ad 187)), (1, .int (nI z)), (2, .int (nI r))] [] m1 := by
    intro i
    induction i with
    | zero =>
      intro r m1 hr w1 f1 e10 hM hf
      obtain rfl : r = z - 1 := by omega
      refine g_X12_circle_54 ?_
      rw [ez1]
      exact ⟨fun _ => ⟨(w1.t rfl (by rw [nI_toInt (by omega)]; omega) (by rw [nI_toInt (by omega)]; omega)).n rfl, (f1.i rfl).i rfl, Or.inr ⟨hn2, rfl, rfl, rfl, e10, hM⟩⟩, fun c => absurd ((nI_leI (by omega) (by omega)).mpr (by omega)) c⟩
    | succ i ih =>
      intro r m1 hr w1 f1 e10 hM hf
      have g0 := cOut_le (n := n) (z := z) z8 r
      have ff := cOut_f (n := n) z2 r
      refine g_X12_circle_54 ?_
      rw [ez1]
      refine ⟨fun c => absurd ((nI_leI (by omega) (by omega)).mp c) (by omega), fun _ => ?_⟩
      -- the places move
      have L197 : ∀ (k : Nat) (m2 : Wm), 1 ≤ k → k < z → WT m2 → Fx (RS [20, 25, 32, 52, 55]) m m2 → m2.1 187 10 = nI (cOut n z (r + 1)).1.1 → MRel (cOut n z (r + 1)).1.2.1 (cOut n z (r + 1)).1.2.2.1 (cOut n z (r + 1)).1.2.2.2 (cOut n z (r + 1)).1.1 (m2.1 194) → (∀ j, j ≤ k → m2.1 203 j = nI ((cOut n z r).2.1 j)) → (∀ j, k < j → j < z → m2.1 203 j = nI ((cOut n z r).2.1 (j - 1))) →
          AW ad E0 μX12_circle (d + 1 + 1) (ciM m n z) 197 [(0, .ref (ad 187)), (1, .int (nI z)), (2, .int (nI r)), (3, .int (nI ((cOut n z r).2.1 (z - 1)))), (4, .int (nI k))] [] m2 := by
        intro k
        induction k with
        | zero => intro _ h; omega
        | succ k ih2 =>
          intro m2 h1 hk w2 f2 e2 hM2 r1 r2
          by_cases hk0 : k = 0
          · subst hk0
            refine g_X12_circle_197 ⟨fun _ => ?_, fun c => absurd (by decide) c⟩
            rw [nI_1]
            have e11 : (1 : Int32).toNatClampNeg = 1 := rfl
            rw [e11]
            refine ih (r + 1) _ (by omega) (wt203 w2 (ff _ (by omega))) (f2.i rfl) e2 (fun j hj => ?_) (fun j hj => ?_)
            · rw [u_ne (by omega), u_ne (by omega), u_ne (by omega), u_ne (by omega)]
              exact hM2 j hj
            · show _ = nI (rotN z (cOut n z r).2.1 j)
              unfold rotN
              by_cases hj1 : j = 1
              · rw [hj1, if_neg (by decide), if_pos rfl]
                exact u_eq
              · rw [if_neg hj1]
                refine (u_ne (fun q => hj1 q.2)).trans ?_
                by_cases hj0 : j = 0
                · rw [if_pos hj0, hj0]; exact r1 0 (by omega)
                · rw [if_neg hj0]; exact r2 j (by omega) hj
          · refine g_X12_circle_197 ?_
            rw [nI_pred, nI_dn (by omega), nI_clamp (by omega), nI_clamp (by omega), r1 k (by omega)]
            refine ⟨fun c => absurd ((l_le 1 1 rfl (by omega) (by omega)).mp c) (by omega), fun _ => ⟨nat_in (by omega) (by decide), nat_in (by omega) (by decide), ih2 _ (by omega) (by omega) (wt203 w2 (ff k (by omega))) (f2.i rfl) e2 (fun j hj => ?_) (fun j hj => (u_ne (by omega)).trans (r1 j (by omega))) (fun j hj1 hj2 => ?_)⟩⟩
            · rw [u_ne (by omega), u_ne (by omega), u_ne (by omega), u_ne (by omega)]
              exact hM2 j hj
            · by_cases hjk : j = k + 1
              · rw [hjk, Nat.add_sub_cancel]; exact u_eq
              · exact (u_ne (fun q => hjk q.2)).trans (r2 j (by omega) hj2)
      have IL : ∀ (i k : Nat) (m3 : Wm), k + i = z / 2 → WT m3 → Fx (RS [20, 25, 32, 52, 55]) m m3 → m3.1 187 10 = nI (cIn (cOut n z r).2.1 n z r k (cOut n z r).1).1 → MRel (cIn (cOut n z r).2.1 n z r k (cOut n z r).1).2.1 (cIn (cOut n z r).2.1 n z r k (cOut n z r).1).2.2.1 (cIn (cOut n z r).2.1 n z r k (cOut n z r).1).2.2.2 (cIn (cOut n z r).2.1 n z r k (cOut n z r).1).1 (m3.1 194) → (∀ k, k < z → m3.1 203 k = nI ((cOut n z r).2.1 k)) →
          AW ad E0 μX12_circle (d + 1 + 1) (ciM m n z) 63 [(0, .ref (ad 187)), (1, .int (nI z)), (2, .int (nI r)), (3, .int (nI k))] [] m3 := by
        intro i
        induction i with
        | zero =>
          intro k m3 hk w3 f3 a10 aM af
          obtain rfl : k = z / 2 := by omega
          refine g_X12_circle_63 ?_
          rw [ez2, ez1, nI_clamp (by omega), af (z - 1) (by omega)]
          exact ⟨fun _ => ⟨nat_in (by omega) (by decide), L197 (z - 1) m3 (by omega) (by omega) w3 f3 a10 aM (fun j hj => af j (by omega)) (fun j h1 h2 => absurd h2 (by omega))⟩, fun c => absurd ((nI_leI (by omega) (by omega)).mpr (by omega)) c⟩
        | succ i ih2 =>
          intro k m3 hk w3 f3 a10 aM af
          have hkz : k < z := by omega
          have ek : nI (z - 1) - nI k = nI (z - 1 - k) := nI_sb (by omega) (by omega)
          have f1' := ff k hkz
          have f2' := ff (z - 1 - k) (by omega)
          have lei := (cIn_le (f := (cOut n z r).2.1) (n := n) (z := z) (r := r) (S := (cOut n z r).1) k).2
          have es3 := sid m3 f3
          have t1 : (nI ((cOut n z r).2.1 k)).toInt = (cOut n z r).2.1 k := nI_toInt (by omega)
          have t2 : (nI ((cOut n z r).2.1 (z - 1 - k))).toInt = (cOut n z r).2.1 (z - 1 - k) := nI_toInt (by omega)
          refine g_X12_circle_63 ?_
          rw [ez2, ez1, ek, nI_1, nI_clamp (n := k) (by omega), nI_clamp (n := z - 1 - k) (by omega), af k hkz, af (z - 1 - k) (by omega)]
          have skip : ¬ ((cOut n z r).2.1 k < n ∧ (cOut n z r).2.1 (z - 1 - k) < n) → AW ad E0 μX12_circle (d + 1 + 1) (ciM m n z) 63 [(0, .ref (ad 187)), (1, .int (nI z)), (2, .int (nI r)), (3, .int (nI (k + 1)))] [] m3 := fun hn => by
            have e : cIn (cOut n z r).2.1 n z r (k + 1) (cOut n z r).1 = cIn (cOut n z r).2.1 n z r k (cOut n z r).1 := by
              show cStep _ n z r k _ = _
              unfold cStep
              rw [if_neg hn]
            exact ih2 (k + 1) m3 (by omega) w3 f3 (by rw [e]; exact a10) (by rw [e]; exact aM) af
          refine ⟨fun c => absurd ((nI_leI (by omega) (by omega)).mp c) (by omega), fun _ => ⟨nat_in (by omega) (by decide), nat_in (by omega) (by decide), (e_isSide (d := d) es3 hn8).to ?_⟩⟩
          rintro _ m' ⟨eq, rfl⟩
          obtain rfl := eq.symm
          by_cases h1 : (cOut n z r).2.1 k < n
          · refine ⟨1, by rw [if_pos (by omega)], fun q => absurd q (by decide), fun _ => (e_isSide (d := d) es3 hn8).to ?_⟩
            rintro _ m' ⟨eq, rfl⟩
            obtain rfl := eq.symm
            by_cases h2 : (cOut n z r).2.1 (z - 1 - k) < n
            · refine ⟨1, by rw [if_pos (by omega)], fun _ => ?_, fun q => absurd q (by decide)⟩
              have e : cIn (cOut n z r).2.1 n z r (k + 1) (cOut n z r).1 = ((cIn (cOut n z r).2.1 n z r k (cOut n z r).1).1 + 1, updN (cIn (cOut n z r).2.1 n z r k (cOut n z r).1).2.1 (cIn (cOut n z r).2.1 n z r k (cOut n z r).1).1 ((cOut n z r).2.1 k), updN (cIn (cOut n z r).2.1 n z r k (cOut n z r).1).2.2.1 (cIn (cOut n z r).2.1 n z r k (cOut n z r).1).1 ((cOut n z r).2.1 (z - 1 - k)), updN (cIn (cOut n z r).2.1 n z r k (cOut n z r).1).2.2.2 (cIn (cOut n z r).2.1 n z r k (cOut n z r).1).1 r) := by
                show cStep _ n z r k _ = _
                unfold cStep
                rw [if_pos ⟨h1, h2⟩]
              have ih3 := ih2 (k + 1)
              rw [e] at ih3
              generalize cIn (cOut n z r).2.1 n z r k (cOut n z r).1 = S at aM a10 lei ih3
              obtain ⟨g, A, B, C⟩ := S
              dsimp only at aM a10 lei ih3
              generalize (cOut n z r).2.1 k = va at h1 f1' t1 ih3 ⊢
              generalize (cOut n z r).2.1 (z - 1 - k) = vb at h2 f2' t2 ih3 ⊢
              show vp_in ((4 : Int32) * (m3.1 187 10)) 160 ∧ vp_in (((4 : Int32) * (m3.1 187 10)) + 1) 160 ∧ vp_in (((4 : Int32) * (m3.1 187 10)) + 2) 160 ∧ vp_in (((4 : Int32) * (m3.1 187 10)) + 3) 160 ∧ AW ad E0 μX12_circle (d + 1 + 1) (ciM m n z) 63 [(0, .ref (ad 187)), (1, .int (nI z)), (2, .int (nI r)), (3, .int (nI (k + 1)))] [] (uI (uI (uI (uI (uI m3 194 ((4 : Int32) * (m3.1 187 10)).toNatClampNeg (nI va)) 194 (((4 : Int32) * (m3.1 187 10)) + 1).toNatClampNeg (nI vb)) 194 (((4 : Int32) * (m3.1 187 10)) + 2).toNatClampNeg 0) 194 (((4 : Int32) * (m3.1 187 10)) + 3).toNatClampNeg (nI r)) 187 10 ((m3.1 187 10) + 1))
              rw [a10]
              have tg : (nI g).toInt = (g : Int) := nI_toInt (by omega)
              have l4 : (4 : Int32) * nI g = nI (4 * g) := l_mul 4 4 rfl g
              have W : WT (uI (uI (uI (uI m3 194 ((4 : Int32) * nI g).toNatClampNeg (nI va)) 194 (((4 : Int32) * nI g) + 1).toNatClampNeg (nI vb)) 194 (((4 : Int32) * nI g) + 2).toNatClampNeg 0) 194 (((4 : Int32) * nI g) + 3).toNatClampNeg (nI r)) :=
                (((w3.up0 (x := nI g) (v := nI va) ⟨by omega, by omega⟩ ⟨by omega, by omega⟩).up1 (x := nI g) (v := nI vb) ⟨by omega, by omega⟩ ⟨by omega, by omega⟩).up2 (x := nI g) ⟨by omega, by omega⟩).up3 (x := nI g) ⟨by omega, by omega⟩
              rw [l4, nI_1 (4 * g), add_l 2 2 rfl, add_l 3 3 rfl, nI_clamp (by omega), nI_clamp (by omega), nI_clamp (by omega), nI_clamp (by omega)] at W
              rw [l4, nI_1 (4 * g), add_l 2 2 rfl, add_l 3 3 rfl, nI_clamp (by omega), nI_clamp (by omega), nI_clamp (by omega), nI_clamp (by omega), nI_1 g]
              refine ⟨nat_in (by omega) (by decide), nat_in (by omega) (by decide), nat_in (by omega) (by decide), nat_in (by omega) (by decide), ih3 _ (by omega) (W.t rfl (by rw [nI_toInt (by omega)]; omega) (by rw [nI_toInt (by omega)]; omega)) (((((f3.i rfl).i rfl).i rfl).i rfl).i rfl) rfl ?_ (fun j hj => af j hj)⟩
              intro j hj
              by_cases hjg : j = g
              · subst hjg
                rw [updN_e, updN_e, updN_e]
                exact ⟨(u_ne (by omega)).trans ((u_ne (by omega)).trans ((u_ne (by omega)).trans ((u_ne (by omega)).trans u_eq))), (u_ne (by omega)).trans ((u_ne (by omega)).trans ((u_ne (by omega)).trans u_eq)), (u_ne (by omega)).trans ((u_ne (by omega)).trans u_eq), (u_ne (by omega)).trans u_eq⟩
              · rw [updN_n hjg, updN_n hjg, updN_n hjg]
                obtain ⟨b1, b2, b3, b4⟩ := aM j (by omega)
                exact ⟨(u_ne (by omega)).trans ((u_ne (by omega)).trans ((u_ne (by omega)).trans ((u_ne (by omega)).trans ((u_ne (by omega)).trans b1)))), (u_ne (by omega)).trans ((u_ne (by omega)).trans ((u_ne (by omega)).trans ((u_ne (by omega)).trans ((u_ne (by omega)).trans b2)))), (u_ne (by omega)).trans ((u_ne (by omega)).trans ((u_ne (by omega)).trans ((u_ne (by omega)).trans ((u_ne (by omega)).trans b3)))), (u_ne (by omega)).trans ((u_ne (by omega)).trans ((u_ne (by omega)).trans ((u_ne (by omega)).trans ((u_ne (by omega)).trans b4))))⟩
            · exact ⟨0, by rw [if_neg (by omega)], fun q => absurd rfl q, fun _ => skip (fun q => h2 q.2)⟩
          · exact ⟨0, by rw [if_neg (by omega)], fun _ => skip (fun q => h1 q.1), fun q => absurd rfl q⟩
      exact IL (z / 2) 0 m1 (by omega) w1 f1 e10 hM hf
  have PL : ∀ (i k : Nat) (m1 : Wm), k + i = z → WT m1 → Fx (RS [20, 25, 32, 52, 55]) m m1 → (∀ j, j < k → m1.1 203 j = nI j) →
      AW ad E0 μX12_circle (d + 1 + 1) (ciM m n z) 29 [(0, .ref (ad 187)), (1, .int (nI z)), (2, .int (nI k))] [] m1 := by
    intro i
    induction i with
    | zero =>
      intro k m1 hk w1 f1 af
      obtain rfl : k = z := hk
      exact g_X12_circle_29 ⟨fun _ => R (k - 1) 0 _ (by omega) (w1.t rfl (by decide) (by decide)) (f1.i rfl) rfl (fun j hj => absurd hj (Nat.not_lt_zero j)) (fun j hj => af j hj), fun c => absurd (nI_le (Nat.le_refl _) (by omega)) c⟩
    | succ i ih =>
      intro k m1 hk w1 f1 af
      refine g_X12_circle_29 ⟨fun c => absurd ((nI_leI (by omega) (by omega)).mp c) (by omega), fun _ => ⟨nat_in (by omega) (by decide), ?_⟩⟩
      rw [nI_1, nI_clamp (by omega)]
      refine ih (k + 1) _ (by omega) (wt203 w1 (by omega)) (f1.i rfl) (fun j hj => ?_)
      by_cases hjk : j = k
      · rw [hjk]; exact u_eq
      · exact (u_ne (fun q => hjk q.2)).trans (af j (by omega))
  exact PL z 0 _ (by omega) w0 F0 (fun j hj => absurd hj (Nat.not_lt_zero j))
end CRM
end
section
/-! WHAT IS KEPT: BOTH SIDES -/
/-- the cells from b to b + n -/
def BR (b n a _k : Nat) : Prop := b ≤ a ∧ a ≤ b + n
theorem BR_sub {b n b' n' : Nat} (h1 : b' ≤ b) (h2 : b + n ≤ b' + n') (a k : Nat) (h : BR b n a k) : BR b' n' a k := ⟨by have := h.1; omega, by have := h.2; omega⟩
theorem rg_13 {b : Nat} (k : Nat) (h1 : 173 ≤ b) (h2 : b < 187) : rg b k = 13 := by
  have h : b = 173 ∨ b = 174 ∨ b = 175 ∨ b = 176 ∨ b = 177 ∨ b = 178 ∨ b = 179 ∨ b = 180 ∨ b = 181 ∨ b = 182 ∨ b = 183 ∨ b = 184 ∨ b = 185 ∨ b = 186 := by omega
  rcases h with rfl | rfl | rfl | rfl | rfl | rfl | rfl | rfl | rfl | rfl | rfl | rfl | rfl | rfl <;> rfl
theorem KR_13 {i : Nat} (hi : i < 2) {S : List Nat} (hS : S.elem 13 = true) (a k : Nat) (h : BR (173 + 7 * i) 6 a k) : RS S a k := by
  unfold RS
  rw [rg_13 k (by have := h.1; omega) (by have := h.2; omega)]
  exact hS
theorem Ke_i {i : Nat} (hi : i < 2) : Ke (173 + 7 * i) := Ke_of (by omega)
theorem SS_i {i : Nat} (hi : i < 2) : SS (173 + 7 * i + 1) 13 := by
  have h : i = 0 ∨ i = 1 := by omega
  rcases h with rfl | rfl
  · exact SS_174
  · exact SS_181
section KPC
variable {ad : Nat → Nat} {d : Nat} {m : Wm}
theorem e_copyF {b0 b1 ρ0 ρ1 : Nat} (w : WT m) (hb0 : SS b0 ρ0) (hb1 : SS b1 ρ1) (hd : b1 + 4 < b0 ∨ b0 + 4 < b1) : Ct ad μX8_copy (d + 1) [.ref (ad b0), .ref (ad b1)] m (fun r m' => WT m' ∧ Fx (BR b0 4) m m' ∧ r = none ∧ (∀ k, k < 32 → m'.1 (b0 + 1) k = m.1 (b1 + 1) k) ∧ (∀ j k, 2 ≤ j → j ≤ 4 → k < 8 → m'.1 (b0 + j) k = m.1 (b1 + j) k) ∧ m'.1 b0 4 = m.1 b1 4) := by
  have h := hb0.2
  refine v_X8_copy hb0.1 hb1.1 ⟨by decide, by decide, by decide, by decide, by decide, by decide, by decide, by decide, by decide, by decide, by decide, by decide, by decide, by decide, by decide, by decide, by decide, by decide, by decide, by decide, ?_⟩
  refine ⟨((((w.c (fun k => (h 1 k (by decide)).2)).c (fun k => (h 2 k (by decide)).2)).c (fun k => (h 3 k (by decide)).2)).c (fun k => (h 4 k (by decide)).2)).s0 h, ((((Fx.rf.c (fun k => ⟨by omega, by omega⟩)).c (fun k => ⟨by omega, by omega⟩)).c (fun k => ⟨by omega, by omega⟩)).c (fun k => ⟨by omega, by omega⟩)).i ⟨by omega, by omega⟩, rfl, fun k hk => ?_, fun j k h2 h4 hk => ?_, ?_⟩
  · exact (u_ne (by omega)).trans ((c_ne (by omega)).trans ((c_ne (by omega)).trans ((c_ne (by omega)).trans (c_at rfl rfl hk))))
  · have hj : j = 2 ∨ j = 3 ∨ j = 4 := by omega
    rcases hj with rfl | rfl | rfl
    · exact (u_ne (by omega)).trans ((c_ne (by omega)).trans ((c_ne (by omega)).trans ((c_at rfl rfl hk).trans (c_ne (by omega)))))
    · exact (u_ne (by omega)).trans ((c_ne (by omega)).trans ((c_at rfl rfl hk).trans ((c_ne (by omega)).trans (c_ne (by omega)))))
    · exact (u_ne (by omega)).trans ((c_at rfl rfl hk).trans ((c_ne (by omega)).trans ((c_ne (by omega)).trans (c_ne (by omega)))))
  · exact u_eq.trans ((c_ne (by omega)).trans ((c_ne (by omega)).trans ((c_ne (by omega)).trans (c_ne (by omega)))))
/-- a number 0 or 1 -/
theorem two_of {x : Int32} (h0 : 0 ≤ x.toInt) (h2 : x.toInt < 2) : ∃ i : Nat, i < 2 ∧ x = nI i := by
  obtain ⟨j, hj, rfl⟩ := zn_of h0
  rw [nI_toInt hj] at h2
  exact ⟨j, by omega, rfl⟩
def kpC (m : Wm) (i : Nat) (m' : Wm) : Prop := WT m' ∧ Fx (BR (173 + 7 * i) 6) m m' ∧ (∀ k, k < 32 → m'.1 (173 + 7 * i + 2) k = m.1 22 k) ∧ (∀ j k, 2 ≤ j → j ≤ 4 → k < 8 → m'.1 (173 + 7 * i + 1 + j) k = m.1 (21 + j) k) ∧ m'.1 (173 + 7 * i + 1) 4 = m.1 21 4 ∧ m'.1 (173 + 7 * i) 2 = m.1 3 5 ∧ (∀ k, k < 5 → m'.1 (173 + 7 * i + 6) k = m.1 4 k) ∧ m'.1 (173 + 7 * i) 3 = m.1 0 11 ∧ m'.1 (173 + 7 * i) 4 = 1
theorem wK {i : Nat} (hi : i < 2) {m : Wm} (w : WT m) {k : Nat} {v : Int32} : WT (uI m (173 + 7 * i) k v) := by
  have h : i = 0 ∨ i = 1 := by omega
  rcases h with rfl | rfl
  · exact w.n rfl
  · exact w.n rfl
theorem wKc {i : Nat} (hi : i < 2) {m : Wm} (w : WT m) {a0 s e n : Nat} : WT (uC m a0 (173 + 7 * i + 6) s e n) := by
  have h : i = 0 ∨ i = 1 := by omega
  rcases h with rfl | rfl
  · exact w.c (fun _ => rfl)
  · exact w.c (fun _ => rfl)
theorem e_keepC {x : Int32} (w : WT m) : Ct ad μX11_keep (d + 3) [.ref (ad 0), .int x] m (fun r m' => (∃ i, i < 2 ∧ x = nI i ∧ r = some (.int 1) ∧ kpC m i m') ∨ (¬ (0 ≤ x.toInt ∧ x.toInt < 2) ∧ r = some (.int 0) ∧ m' = m)) := by
  refine v_X11_keep (d := d + 2) ⟨fun c => Or.inr ⟨?_, rfl, rfl⟩, fun c => ⟨fun c2 => ?_, fun c2 => Or.inr ⟨?_, rfl, rfl⟩⟩⟩
  · have := y_ltr (n := 0) rfl c; omega
  · have h0 := y_nltr (n := 0) rfl c
    have h2 := y_ltr (n := 2) rfl c2
    obtain ⟨i, hi, rfl⟩ := two_of h0 h2
    rw [nI_clamp (by omega)]
    refine ⟨nat_in hi (by decide), 173 + 7 * i, w.keepx hi, Ke_i hi, v_X0_store (d := d + 1) (Ke_i hi) St_21 ((e_copyF (d := d) w (SS_i hi) SS_21 (by omega)).to ?_)⟩
    rintro _ m1 ⟨w1, f1, rfl, k1, k2, k3⟩
    have f1' : Fx (BR (173 + 7 * i) 6) m m1 := (Fx.rf (S := BR (173 + 7 * i) 6)).tr f1 (BR_sub (by omega) (by omega))
    refine ⟨rfl, by decide, by decide, by decide, by decide, by decide, rfl, Or.inl ⟨i, hi, rfl, rfl, wK hi (wK hi (wKc hi (wK hi w1))), (((f1'.i ⟨by omega, by omega⟩).c (fun k => ⟨by omega, by omega⟩)).i ⟨by omega, by omega⟩).i ⟨by omega, by omega⟩, fun k hk => ?_, fun j k a1 a2 hk => ?_, ?_, ?_, fun k hk => ?_, ?_, u_eq⟩⟩
    · exact (u_ne (by omega)).trans ((u_ne (by omega)).trans ((c_ne (by omega)).trans ((u_ne (by omega)).trans (k1 k hk))))
    · exact (u_ne (by omega)).trans ((u_ne (by omega)).trans ((c_ne (by omega)).trans ((u_ne (by omega)).trans (k2 j k a1 a2 hk))))
    · exact (u_ne (by omega)).trans ((u_ne (by omega)).trans ((c_ne (by omega)).trans ((u_ne (by omega)).trans k3)))
    · refine (u_ne (by omega)).trans ((u_ne (by omega)).trans ((c_ne (by omega)).trans (u_eq.trans ?_)))
      exact f1.at (by unfold BR; omega)
    · refine (u_ne (by omega)).trans ((u_ne (by omega)).trans ((c_at rfl rfl hk).trans ((u_ne (by omega)).trans ?_)))
      exact f1.at (by unfold BR; omega)
    · exact (u_ne (by omega)).trans u_eq
  · have := y_nltr (n := 2) rfl c2; omega
def agC (m : Wm) (i P : Nat) (m' : Wm) : Prop := WT m' ∧ Fx (RS [4, 42, 43, 44, 53]) m m' ∧ (∀ k, k < 32 → m'.1 22 k = m.1 (173 + 7 * i + 2) k) ∧ (∀ j k, 2 ≤ j → j ≤ 4 → k < 8 → m'.1 (21 + j) k = m.1 (173 + 7 * i + 1 + j) k) ∧ m'.1 21 4 = m.1 (173 + 7 * i + 1) 4 ∧ m'.1 3 5 = m.1 (173 + 7 * i) 2 ∧ (∀ k, k < 5 → m'.1 4 k = m.1 (173 + 7 * i + 6) k) ∧ m'.1 31 1 = 0 ∧
  m'.1 0 11 = if (m.1 P 5).toInt = 0 then 0 else m.1 (173 + 7 * i) 3 - m.1 (173 + 7 * i) 3 / m.1 P 5 * m.1 P 5
theorem e_againC {x : Int32} {P : Nat} (w : WT m) (hP : m.2.2 0 9 = some P) : Ct ad μX11_again (d + 3) [.ref (ad 0), .int x] m (fun r m' => (∃ i, i < 2 ∧ x = nI i ∧ m.1 (173 + 7 * i) 4 ≠ 0 ∧ r = some (.int 1) ∧ agC m i P m') ∨ ((∀ i, i < 2 → x = nI i → m.1 (173 + 7 * i) 4 = 0) ∧ r = some (.int 0) ∧ m' = m)) := by
  have hPP : P = 134 ∨ P = 140 := by
    obtain ⟨r, h1, h2⟩ := w.r09
    rw [hP] at h1
    cases h1
    exact h2
  refine v_X11_again (d := d + 2) ⟨fun c => Or.inr ⟨fun i hi hx => ?_, rfl, rfl⟩, fun c => ⟨fun c2 => Or.inr ⟨fun i hi hx => ?_, rfl, rfl⟩, fun c2 => ?_⟩⟩
  · have := y_ltr (n := 0) rfl c
    rw [hx, nI_toInt (by omega)] at this
    omega
  · have := y_lel (n := 2) rfl c2
    rw [hx, nI_toInt (by omega)] at this
    omega
  · have h0 := y_nltr (n := 0) rfl c
    have h2 := y_nlel (n := 2) rfl c2
    obtain ⟨i, hi, rfl⟩ := two_of h0 h2
    rw [nI_clamp (by omega)]
    refine ⟨nat_in hi (by decide), 173 + 7 * i, w.keepx hi, Ke_i hi, fun ht => ?_, fun ht => Or.inr ⟨fun i' hi' hx => ?_, rfl, rfl⟩⟩
    · refine ⟨nat_in hi (by decide), 173 + 7 * i, w.keepx hi, Ke_i hi, v_X0_restore (d := d + 1) (Ke_i hi) St_21 ((e_copyF (d := d) w SS_21 (SS_i hi) (by omega)).to ?_)⟩
      rintro _ m1 ⟨w1, f1, rfl, k1, k2, k3⟩
      refine ⟨rfl, by decide, by decide, by decide, by decide, by decide, rfl, ?_⟩
      have f1' : Fx (RS [4, 42, 43, 44, 53]) m m1 := (Fx.rf (S := RS [4, 42, 43, 44, 53])).tr f1 (fun a k h => by
        have : a = 21 ∨ a = 22 ∨ a = 23 ∨ a = 24 ∨ a = 25 := by have := h.1; have := h.2; omega
        rcases this with rfl | rfl | rfl | rfl | rfl <;> rfl)
      have w2 : WT (uC (uI m1 3 5 (m1.1 (173 + 7 * i) 2)) (173 + 7 * i + 6) 4 (0 : Int32).toNatClampNeg (0 : Int32).toNatClampNeg (5 : Int32).toNatClampNeg) := (w1.n rfl).c (fun _ => rfl)
      have f2 : Fx (RS [4, 42, 43, 44, 53]) m (uC (uI m1 3 5 (m1.1 (173 + 7 * i) 2)) (173 + 7 * i + 6) 4 (0 : Int32).toNatClampNeg (0 : Int32).toNatClampNeg (5 : Int32).toNatClampNeg) := (f1'.i rfl).c (fun _ => rfl)
      have j22 : ∀ k, k < 32 → (uC (uI m1 3 5 (m1.1 (173 + 7 * i) 2)) (173 + 7 * i + 6) 4 (0 : Int32).toNatClampNeg (0 : Int32).toNatClampNeg (5 : Int32).toNatClampNeg).1 22 k = m.1 (173 + 7 * i + 2) k := fun k hk => (c_ne (by omega)).trans ((u_ne (by omega)).trans (k1 k hk))
      have j23 : ∀ j k, 2 ≤ j → j ≤ 4 → k < 8 → (uC (uI m1 3 5 (m1.1 (173 + 7 * i) 2)) (173 + 7 * i + 6) 4 (0 : Int32).toNatClampNeg (0 : Int32).toNatClampNeg (5 : Int32).toNatClampNeg).1 (21 + j) k = m.1 (173 + 7 * i + 1 + j) k := fun j k a1 a2 hk => (c_ne (by omega)).trans ((u_ne (by omega)).trans (k2 j k a1 a2 hk))
      have j21 : (uC (uI m1 3 5 (m1.1 (173 + 7 * i) 2)) (173 + 7 * i + 6) 4 (0 : Int32).toNatClampNeg (0 : Int32).toNatClampNeg (5 : Int32).toNatClampNeg).1 21 4 = m.1 (173 + 7 * i + 1) 4 := (c_ne (by omega)).trans ((u_ne (by omega)).trans k3)
      have j35 : (uC (uI m1 3 5 (m1.1 (173 + 7 * i) 2)) (173 + 7 * i + 6) 4 (0 : Int32).toNatClampNeg (0 : Int32).toNatClampNeg (5 : Int32).toNatClampNeg).1 3 5 = m.1 (173 + 7 * i) 2 := (c_ne (by omega)).trans (u_eq.trans (f1.at (by unfold BR; omega)))
      have j4 : ∀ k, k < 5 → (uC (uI m1 3 5 (m1.1 (173 + 7 * i) 2)) (173 + 7 * i + 6) 4 (0 : Int32).toNatClampNeg (0 : Int32).toNatClampNeg (5 : Int32).toNatClampNeg).1 4 k = m.1 (173 + 7 * i + 6) k := fun k hk => (c_at rfl rfl hk).trans ((u_ne (by omega)).trans (f1.at (by unfold BR; omega)))
      have jr : (uC (uI m1 3 5 (m1.1 (173 + 7 * i) 2)) (173 + 7 * i + 6) 4 (0 : Int32).toNatClampNeg (0 : Int32).toNatClampNeg (5 : Int32).toNatClampNeg).2.2 0 9 = some P := (f1 0 9 (by unfold BR; omega)).2.2.trans hP
      have jP : (uC (uI m1 3 5 (m1.1 (173 + 7 * i) 2)) (173 + 7 * i + 6) 4 (0 : Int32).toNatClampNeg (0 : Int32).toNatClampNeg (5 : Int32).toNatClampNeg).1 P 5 = m.1 P 5 := (c_ne (by omega)).trans ((u_ne (by omega)).trans (f1.at (by unfold BR; omega)))
      have jK : (uC (uI m1 3 5 (m1.1 (173 + 7 * i) 2)) (173 + 7 * i + 6) 4 (0 : Int32).toNatClampNeg (0 : Int32).toNatClampNeg (5 : Int32).toNatClampNeg).1 (173 + 7 * i) 3 = m.1 (173 + 7 * i) 3 := (c_ne (by omega)).trans ((u_ne (by omega)).trans (f1.at (by unfold BR; omega)))
      generalize uC (uI m1 3 5 (m1.1 (173 + 7 * i) 2)) (173 + 7 * i + 6) 4 (0 : Int32).toNatClampNeg (0 : Int32).toNatClampNeg (5 : Int32).toNatClampNeg = m3 at w2 f2 j22 j23 j21 j35 j4 jr jP jK ⊢
      have tP := w2.pl (r := P) (k := 5) hPP rfl rfl
      rw [jP] at tP
      have fin : ∀ s0, s0 = (if (m.1 P 5).toInt = 0 then 0 else m.1 (173 + 7 * i) 3 - m.1 (173 + 7 * i) 3 / m.1 P 5 * m.1 P 5) → AW ad E0 μX11_again (d + 3) (fun r m' => (∃ i', i' < 2 ∧ nI i = nI i' ∧ m.1 (173 + 7 * i') 4 ≠ 0 ∧ r = some (.int 1) ∧ agC m i' P m') ∨ ((∀ i', i' < 2 → nI i = nI i' → m.1 (173 + 7 * i') 4 = 0) ∧ r = some (.int 0) ∧ m' = m)) 76 [(0, .ref (ad 0))] [.int s0, .ref (ad 0)] m3 := fun s0 hs0 =>
        g_X11_again_76 (Or.inl ⟨i, hi, rfl, ht, rfl, (w2.n rfl).t rfl (by decide) (by decide), (f2.i rfl).i rfl, j22, fun j k a1 a2 hk => (u_ne (by omega)).trans ((u_ne (by omega)).trans (j23 j k a1 a2 hk)), j21, j35, j4, rfl, hs0⟩)
      refine ⟨P, jr, Pl_of hPP, ?_⟩
      rw [jP]
      refine ⟨fun c0 => fin 0 ?_, fun c0 => ⟨nat_in hi (by decide), 173 + 7 * i, w2.keepx hi, Ke_i hi, P, jr, Pl_of hPP, ?_⟩⟩
      · have := y_ler (n := 0) rfl c0
        rw [if_pos (by omega)]
      · have c0' := y_nler (n := 0) rfl c0
        rw [jP, jK]
        exact ⟨fun z => by rw [z] at c0'; exact absurd c0' (by decide), fin _ (by rw [if_neg (by omega)])⟩
    · have : i' = i := by
        have := (nI_eq (a := i) (b := i') (by omega) (by omega)).mp hx
        omega
      rw [this]; exact ht
end KPC
end
section
/-! WHAT IS KEPT: THE MODEL -/
section KPM
variable {ad : Nat → Nat} {d : Nat} {m : Wm}
def kpM (m : Wm) (i : Nat) (m' : Wm) : Prop := WT m' ∧ Fx (RS [20, 40]) m m' ∧ m'.1 215 i = 1 ∧ m'.1 216 i = m.1 187 53 ∧ (∀ j, j ≠ i → m'.1 215 j = m.1 215 j ∧ m'.1 216 j = m.1 216 j) ∧ (∀ k, k < 57 → m'.1 214 (71 * i + k) = layV m k) ∧ (∀ s, s < 8 → m'.1 214 (71 * i + 57 + s) = if m.1 189 s = 0 then 0 else 1) ∧ (∀ k, k < 5 → m'.1 214 (71 * i + 65 + k) = m.1 193 k) ∧ m'.1 214 (71 * i + 70) = m.1 187 12 ∧ ∀ k, k < 71 * i ∨ 71 * i + 71 ≤ k → m'.1 214 k = m.1 214 k
theorem layV_at {m m' : Wm} (h : ∀ b, b = 188 ∨ b = 190 ∨ b = 191 ∨ b = 192 → ∀ k, m'.1 b k = m.1 b k) (h8 : m'.1 187 8 = m.1 187 8) (k : Nat) : layV m' k = layV m k := by
  unfold layV
  rw [h 188 (Or.inl rfl), h 190 (Or.inr (Or.inl rfl)), h 191 (Or.inr (Or.inr (Or.inl rfl))), h 192 (Or.inr (Or.inr (Or.inr rfl))), h8]
theorem e_keepM {x : Int32} (w : WT m) : Ct ad μX12_keep (d + 2) [.ref (ad 187), .int x] m (fun r m' => (∃ i, i < 2 ∧ x = nI i ∧ r = some (.int 1) ∧ kpM m i m') ∨ (¬ (0 ≤ x.toInt ∧ x.toInt < 2) ∧ r = some (.int 0) ∧ WT m' ∧ Fx (RS [20]) m m')) := by
  have w0 : WT (uI m 187 17 0) := w.n rfl
  have z0 : (0 : Int32).toInt = 0 := rfl
  have z1 : (1 : Int32).toInt = 1 := rfl
  refine v_X12_keep (d := d + 1) ((in_i (lo := 0) (hi := 1) rfl rfl).to ?_)
  rintro _ m' ⟨eq, rfl⟩
  obtain rfl := eq.symm
  by_cases hc : (0 : Int32) ≤ x ∧ x ≤ 1
  · have h0 := z_le hc.1
    have h1 := z_le hc.2
    obtain ⟨i, hi, rfl⟩ := two_of (x := x) (by omega) (by omega)
    refine ⟨1, by rw [if_pos hc], fun _ => ?_, fun z => absurd z (by decide)⟩
    have e71 : (71 : Int32) * nI i = nI (71 * i) := l_mul 71 71 rfl i
    have eb : vp_nar .boolean (1 : Int32) = 1 := rfl
    rw [nI_clamp (by omega), e71, eb, add_l 57 57 rfl]
    have w2 : WT (uI (uI (uI m 187 17 0) 215 i 1) 216 i ((uI (uI m 187 17 0) 215 i 1).1 187 53)) := (w0.n rfl).n rfl
    have f2 : Fx (RS [20, 40]) m (uI (uI (uI m 187 17 0) 215 i 1) 216 i ((uI (uI m 187 17 0) 215 i 1).1 187 53)) := (((Fx.rf (S := RS [20, 40])).i rfl).i rfl).i rfl
    have a1 : (uI (uI (uI m 187 17 0) 215 i 1) 216 i ((uI (uI m 187 17 0) 215 i 1).1 187 53)).1 215 i = 1 := (u_ne (by omega)).trans u_eq
    have a2 : (uI (uI (uI m 187 17 0) 215 i 1) 216 i ((uI (uI m 187 17 0) 215 i 1).1 187 53)).1 216 i = m.1 187 53 := u_eq
    have a3 : ∀ j, j ≠ i → (uI (uI (uI m 187 17 0) 215 i 1) 216 i ((uI (uI m 187 17 0) 215 i 1).1 187 53)).1 215 j = m.1 215 j ∧ (uI (uI (uI m 187 17 0) 215 i 1) 216 i ((uI (uI m 187 17 0) 215 i 1).1 187 53)).1 216 j = m.1 216 j := fun j hj => ⟨(u_ne (by omega)).trans ((u_ne (fun q => hj q.2)).trans (u_ne (by omega))), (u_ne (fun q => hj q.2)).trans ((u_ne (by omega)).trans (u_ne (by omega)))⟩
    have a4 : ∀ b, b = 188 ∨ b = 189 ∨ b = 190 ∨ b = 191 ∨ b = 192 ∨ b = 193 ∨ b = 214 → ∀ k, (uI (uI (uI m 187 17 0) 215 i 1) 216 i ((uI (uI m 187 17 0) 215 i 1).1 187 53)).1 b k = m.1 b k := fun b hb k => (u_ne (by omega)).trans ((u_ne (by omega)).trans (u_ne (by omega)))
    have a5 : ∀ k, k ≠ 17 → (uI (uI (uI m 187 17 0) 215 i 1) 216 i ((uI (uI m 187 17 0) 215 i 1).1 187 53)).1 187 k = m.1 187 k := fun k hk => (u_ne (by omega)).trans ((u_ne (by omega)).trans (u_ne (fun q => hk q.2)))
    generalize uI (uI (uI m 187 17 0) 215 i 1) 216 i ((uI (uI m 187 17 0) 215 i 1).1 187 53) = m2 at w2 f2 a1 a2 a3 a4 a5 ⊢
    refine ⟨nat_in hi (by decide), nat_in hi (by decide), (layC (na := 142) rfl (by decide) (by omega) (by decide)).to ?_⟩
    rintro _ m3 ⟨rfl, e3⟩
    have w3 : WT m3 := by subst e3; exact w2.same (fun b k h => layM_at (fun q => h (by rw [q]; rfl))) rfl
    have f3 : Fx (RS [20, 40]) m m3 := by
      subst e3
      exact f2.tr (S' := RS [40]) (fun b k h => ⟨layM_at (fun q => h (by rw [q]; rfl)), rfl, rfl⟩) (RS_sub rfl)
    have b1 : ∀ b k, b ≠ 214 → m3.1 b k = m2.1 b k := fun b k hb => by subst e3; exact layM_at hb
    have b2 : ∀ k, m3.1 214 k = if 71 * i ≤ k ∧ k < 71 * i + 57 then layV m2 (k - 71 * i) else m2.1 214 k := fun k => by
      subst e3
      show (if 214 = 214 ∧ 71 * i ≤ k ∧ k < 71 * i + 57 then layV m2 (k - 71 * i) else m2.1 214 k) = _
      by_cases hk : 71 * i ≤ k ∧ k < 71 * i + 57
      · rw [if_pos ⟨rfl, hk⟩, if_pos hk]
      · rw [if_neg (fun q => hk q.2), if_neg hk]
    have lV : ∀ k, layV m2 k = layV m k := layV_at (fun b hb k => a4 b (by omega) k) (a5 8 (by decide))
    refine ⟨rfl, ?_⟩
    have L92 : ∀ (j k : Nat) (m4 : Wm), k + j = 5 → WT m4 → Fx (RS [20, 40]) m m4 → (∀ b k, b ≠ 214 → m4.1 b k = m2.1 b k) → (∀ k, k < 57 → m4.1 214 (71 * i + k) = layV m k) → (∀ s, s < 8 → m4.1 214 (71 * i + 57 + s) = if m.1 189 s = 0 then 0 else 1) → (∀ q, q < k → m4.1 214 (71 * i + 65 + q) = m.1 193 q) → (∀ k, k < 71 * i ∨ 71 * i + 71 ≤ k → m4.1 214 k = m.1 214 k) →
        AW ad E0 μX12_keep (d + 2) (fun r m' => (∃ i', i' < 2 ∧ nI i = nI i' ∧ r = some (.int 1) ∧ kpM m i' m') ∨ (¬ (0 ≤ (nI i).toInt ∧ (nI i).toInt < 2) ∧ r = some (.int 0) ∧ WT m' ∧ Fx (RS [20]) m m')) 92 [(0, .ref (ad 187)), (2, .int (nI (71 * i + 57 + 8))), (3, .int (nI k))] [] m4 := by
      intro j
      induction j with
      | zero =>
        intro k m4 hk w4 f4 c1 c2 c3 c4 c5
        obtain rfl : k = 5 := hk
        refine g_X12_keep_92 ?_
        rw [add_l 5 5 rfl, nI_clamp (by omega)]
        have ek : 71 * i + 57 + 8 + 5 = 71 * i + 70 := by omega
        refine ⟨fun _ => ⟨nat_in (by omega) (by decide), Or.inl ⟨i, hi, rfl, rfl, w4.n rfl, f4.i rfl, (u_ne (by omega)).trans ((c1 215 i (by decide)).trans a1), (u_ne (by omega)).trans ((c1 216 i (by decide)).trans a2), fun j hj => ⟨(u_ne (by omega)).trans ((c1 215 j (by decide)).trans (a3 j hj).1), (u_ne (by omega)).trans ((c1 216 j (by decide)).trans (a3 j hj).2)⟩, fun k hk => (u_ne (by omega)).trans (c2 k hk), fun s hs => (u_ne (by omega)).trans (c3 s hs), fun k hk => (u_ne (by omega)).trans (c4 k hk), ?_, fun k hk => (u_ne (by omega)).trans (c5 k hk)⟩⟩, fun z => absurd (by decide) z⟩
        rw [ek]
        exact u_eq.trans ((c1 187 12 (by decide)).trans (a5 12 (by decide)))
      | succ j ih =>
        intro k m4 hk w4 f4 c1 c2 c3 c4 c5
        refine g_X12_keep_92 ?_
        rw [nI_add, nI_1, nI_clamp (by omega), nI_clamp (by omega)]
        refine ⟨fun z => absurd ((le_l 5 5 rfl (by decide) (by omega)).mp z) (by omega), fun _ => ⟨nat_in (by omega) (by decide), nat_in (by omega) (by decide), ih (k + 1) _ (by omega) (w4.n rfl) (f4.i rfl) (fun b q hb => (u_ne (fun z => hb z.1)).trans (c1 b q hb)) (fun q hq => (u_ne (by omega)).trans (c2 q hq)) (fun s hs => (u_ne (by omega)).trans (c3 s hs)) (fun q hq => ?_) (fun q hq => (u_ne (by omega)).trans (c5 q hq))⟩⟩
        by_cases hqk : q = k
        · subst hqk
          have e : 71 * i + 65 + q = 71 * i + 57 + 8 + q := by omega
          rw [e]
          exact u_eq.trans ((c1 193 q (by decide)).trans (a4 193 (by decide) q))
        · exact (u_ne (by omega)).trans (c4 q (by omega))
    have L53 : ∀ (j s : Nat) (m4 : Wm), s + j = 8 → WT m4 → Fx (RS [20, 40]) m m4 → (∀ b k, b ≠ 214 → m4.1 b k = m2.1 b k) → (∀ k, k < 57 → m4.1 214 (71 * i + k) = layV m k) → (∀ q, q < s → m4.1 214 (71 * i + 57 + q) = if m.1 189 q = 0 then 0 else 1) → (∀ k, k < 71 * i ∨ 71 * i + 71 ≤ k → m4.1 214 k = m.1 214 k) →
        AW ad E0 μX12_keep (d + 2) (fun r m' => (∃ i', i' < 2 ∧ nI i = nI i' ∧ r = some (.int 1) ∧ kpM m i' m') ∨ (¬ (0 ≤ (nI i).toInt ∧ (nI i).toInt < 2) ∧ r = some (.int 0) ∧ WT m' ∧ Fx (RS [20]) m m')) 53 [(0, .ref (ad 187)), (2, .int (nI (71 * i + 57))), (3, .int (nI s))] [] m4 := by
      intro j
      induction j with
      | zero =>
        intro s m4 hs w4 f4 c1 c2 c3 c5
        obtain rfl : s = 8 := hs
        refine g_X12_keep_53 ?_
        rw [add_l 8 8 rfl]
        exact ⟨fun _ => L92 5 0 m4 rfl w4 f4 c1 c2 c3 (fun q hq => absurd hq (Nat.not_lt_zero q)) c5, fun z => absurd (by decide) z⟩
      | succ j ih =>
        intro s m4 hs w4 f4 c1 c2 c3 c5
        refine g_X12_keep_53 ?_
        rw [nI_add, nI_1, nI_clamp (by omega), nI_clamp (by omega), c1 189 s (by decide), a4 189 (by decide) s]
        have nx : ∀ v : Int32, (v = if m.1 189 s = 0 then 0 else 1) → AW ad E0 μX12_keep (d + 2) (fun r m' => (∃ i', i' < 2 ∧ nI i = nI i' ∧ r = some (.int 1) ∧ kpM m i' m') ∨ (¬ (0 ≤ (nI i).toInt ∧ (nI i).toInt < 2) ∧ r = some (.int 0) ∧ WT m' ∧ Fx (RS [20]) m m')) 53 [(0, .ref (ad 187)), (2, .int (nI (71 * i + 57))), (3, .int (nI (s + 1)))] [] (uI m4 214 (71 * i + 57 + s) v) := fun v hv =>
          ih (s + 1) _ (by omega) (w4.n rfl) (f4.i rfl) (fun b q hb => (u_ne (fun z => hb z.1)).trans (c1 b q hb)) (fun q hq => (u_ne (by omega)).trans (c2 q hq)) (fun q hq => by
            by_cases hqs : q = s
            · rw [hqs, ← hv]; exact u_eq
            · exact (u_ne (by omega)).trans (c3 q (by omega))) (fun q hq => (u_ne (by omega)).trans (c5 q hq))
        exact ⟨fun z => absurd ((le_l 8 8 rfl (by decide) (by omega)).mp z) (by omega), fun _ => ⟨nat_in (by omega) (by decide), fun hz => ⟨nat_in (by omega) (by decide), nx 0 (by rw [if_pos hz])⟩, fun hz => ⟨nat_in (by omega) (by decide), nx 1 (by rw [if_neg hz])⟩⟩⟩
    exact L53 8 0 m3 rfl w3 f3 b1 (fun k hk => by rw [b2, if_pos (by omega), Nat.add_sub_cancel_left]; exact lV k) (fun q hq => absurd hq (Nat.not_lt_zero q)) (fun k hk => by rw [b2, if_neg (by omega)]; exact a4 214 (by decide) k)
  · refine ⟨0, by rw [if_neg hc], fun z => absurd rfl z, fun _ => Or.inr ⟨fun q => hc ⟨(fa_le _ _).mpr (by omega), (fa_le _ _).mpr (by omega)⟩, rfl, w0, Fx.rf.i rfl⟩⟩
def agM (m : Wm) (i : Nat) (m' : Wm) : Prop := WT m' ∧ Fx (RS [20, 24, 29, 46, 47, 49, 52]) m m' ∧ (∀ k, k < 57 → m'.1 (tgt k).1 (tgt k).2 = m.1 214 (71 * i + k)) ∧ (∀ s, s < 8 → m'.1 189 s = if m.1 214 (71 * i + 57 + s) = 1 then 1 else 0) ∧ (∀ k, k < 5 → m'.1 193 k = m.1 214 (71 * i + 65 + k)) ∧ m'.1 187 30 = 0 ∧
  m'.1 187 12 = if m.1 187 11 = 0 then 0 else m.1 214 (71 * i + 70) - m.1 214 (71 * i + 70) / m.1 187 11 * m.1 187 11
theorem e_againM {x : Int32} (w : WT m) : Ct ad μX12_again (d + 2) [.ref (ad 187), .int x] m (fun r m' => (∃ i, i < 2 ∧ x = nI i ∧ (m.1 215 i ≠ 0 ∧ m.1 216 i = m.1 187 53) ∧ r = some (.int 1) ∧ agM m i m') ∨ ((∀ i, i < 2 → x = nI i → ¬ (m.1 215 i ≠ 0 ∧ m.1 216 i = m.1 187 53)) ∧ r = some (.int 0) ∧ WT m' ∧ Fx (RS [20]) m m')) := by
  have w0 : WT (uI m 187 17 0) := w.n rfl
  have z0 : (0 : Int32).toInt = 0 := rfl
  have z1 : (1 : Int32).toInt = 1 := rfl
  have no : (∀ i, i < 2 → x = nI i → ¬ (m.1 215 i ≠ 0 ∧ m.1 216 i = m.1 187 53)) → (∃ i, i < 2 ∧ x = nI i ∧ (m.1 215 i ≠ 0 ∧ m.1 216 i = m.1 187 53) ∧ some (Value.int 0) = some (.int 1) ∧ agM m i (uI m 187 17 0)) ∨ ((∀ i, i < 2 → x = nI i → ¬ (m.1 215 i ≠ 0 ∧ m.1 216 i = m.1 187 53)) ∧ some (Value.int 0) = some (.int 0) ∧ WT (uI m 187 17 0) ∧ Fx (RS [20]) m (uI m 187 17 0)) := fun h => Or.inr ⟨h, rfl, w0, Fx.rf.i rfl⟩
  refine v_X12_again (d := d + 1) ((in_i (lo := 0) (hi := 1) rfl rfl).to ?_)
  rintro _ m' ⟨eq, rfl⟩
  obtain rfl := eq.symm
  by_cases hc : (0 : Int32) ≤ x ∧ x ≤ 1
  · have h0 := z_le hc.1
    have h1 := z_le hc.2
    obtain ⟨i, hi, rfl⟩ := two_of (x := x) (by omega) (by omega)
    have ii : ∀ i', i' < 2 → nI i = nI i' → i' = i := fun i' h1 h2 => ((nI_eq (a := i) (b := i') (by omega) (by omega)).mp h2).symm
    have e71 : (71 : Int32) * nI i = nI (71 * i) := l_mul 71 71 rfl i
    refine ⟨1, by rw [if_pos hc], fun z => absurd z (by decide), fun _ => ?_⟩
    rw [nI_clamp (by omega), e71, add_l 57 57 rfl]
    refine ⟨nat_in hi (by decide), fun hz => no (fun i' a b => ?_), fun hz => ⟨nat_in hi (by decide), fun ht => ?_, fun ht => no (fun i' a b => ?_)⟩⟩
    · rw [ii i' a b]; exact fun q => q.1 hz
    · refine (bringC (na := 142) rfl (by decide) (by omega) (by decide)).to ?_
      rintro _ m3 ⟨rfl, e3⟩
      refine ⟨rfl, ?_⟩
      have w3 : WT m3 := by
        subst e3
        exact w0.same (fun b k h => brM_out (fun j q => h (by have := (tgt_rg j).1; rw [q] at this; exact this)) (Nat.le_refl _)) (congrArg Prod.snd (brM_2 57))
      have f3 : Fx (RS [20, 24, 29, 46, 47, 49, 52]) m m3 := by
        subst e3
        refine ((Fx.rf (S := RS [20, 24, 29, 46, 47, 49, 52])).i (a := 187) (k := 17) (v := 0) rfl).tr (S' := RS [24, 49]) (fun b k h => ⟨brM_out (fun j q => h (by have := (tgt_rg j).2; rw [q] at this; exact this)) (Nat.le_refl _), by rw [brM_2 57], by rw [brM_2 57]⟩) (RS_sub rfl)
      have b1 : ∀ k, k < 57 → m3.1 (tgt k).1 (tgt k).2 = m.1 214 (71 * i + k) := fun k hk => by
        subst e3
        exact (brM_at hk (Nat.le_refl _)).trans (u_ne (by omega))
      have b2 : ∀ k, m3.1 214 k = m.1 214 k := fun k => f3.at (nRS (ρ := 40) rfl rfl)
      have b3 : m3.1 187 11 = m.1 187 11 := f3.at (nRS (ρ := 25) rfl rfl)
      have L98 : ∀ (j k : Nat) (m4 : Wm), k + j = 5 → WT m4 → Fx (RS [20, 24, 29, 46, 47, 49, 52]) m m4 → (∀ k, k < 57 → m4.1 (tgt k).1 (tgt k).2 = m.1 214 (71 * i + k)) → (∀ s, s < 8 → m4.1 189 s = if m.1 214 (71 * i + 57 + s) = 1 then 1 else 0) → (∀ q, q < k → m4.1 193 q = m.1 214 (71 * i + 65 + q)) →
          AW ad E0 μX12_again (d + 2) (fun r m' => (∃ i', i' < 2 ∧ nI i = nI i' ∧ (m.1 215 i' ≠ 0 ∧ m.1 216 i' = m.1 187 53) ∧ r = some (.int 1) ∧ agM m i' m') ∨ ((∀ i', i' < 2 → nI i = nI i' → ¬ (m.1 215 i' ≠ 0 ∧ m.1 216 i' = m.1 187 53)) ∧ r = some (.int 0) ∧ WT m' ∧ Fx (RS [20]) m m')) 98 [(0, .ref (ad 187)), (2, .int (nI (71 * i + 57 + 8))), (3, .int (nI k))] [] m4 := by
        intro j
        have tg : ∀ k, k < 57 → (tgt k).1 ≠ 193 ∧ (tgt k).1 ≠ 189 ∧ ¬ ((tgt k).1 = 187 ∧ ((tgt k).2 = 12 ∨ (tgt k).2 = 30)) := fun k hk => by
          have h : ∀ k : Fin 57, (tgt k.val).1 ≠ 193 ∧ (tgt k.val).1 ≠ 189 ∧ ¬ ((tgt k.val).1 = 187 ∧ ((tgt k.val).2 = 12 ∨ (tgt k.val).2 = 30)) := by decide +kernel
          exact h ⟨k, hk⟩
        induction j with
        | zero =>
          intro k m4 hk w4 f4 c1 c2 c3
          obtain rfl : k = 5 := hk
          have d2 : m4.1 214 (71 * i + 57 + 8 + 5) = m.1 214 (71 * i + 70) := f4.at (nRS (ρ := 40) rfl rfl)
          have d3 : m4.1 187 11 = m.1 187 11 := f4.at (nRS (ρ := 25) rfl rfl)
          refine g_X12_again_98 ?_
          rw [add_l 5 5 rfl, nI_clamp (by omega), d2, d3]
          have fin : ∀ v : Int32, (v = if m.1 187 11 = 0 then 0 else m.1 214 (71 * i + 70) - m.1 214 (71 * i + 70) / m.1 187 11 * m.1 187 11) → agM m i (uI (uI m4 187 12 v) 187 30 0) := fun v hv =>
            ⟨(w4.n rfl).t rfl (by decide) (by decide), (f4.i rfl).i rfl, fun k hk => (u_ne (fun q => (tg k hk).2.2 ⟨q.1, Or.inr q.2⟩)).trans ((u_ne (fun q => (tg k hk).2.2 ⟨q.1, Or.inl q.2⟩)).trans (c1 k hk)), fun s hs => (u_ne (by omega)).trans ((u_ne (by omega)).trans (c2 s hs)), fun q hq => (u_ne (by omega)).trans ((u_ne (by omega)).trans (c3 q hq)), u_eq, (u_ne (by omega)).trans (u_eq.trans hv)⟩
          exact ⟨fun _ => ⟨fun h11 => ⟨nat_in (by omega) (by decide), h11, Or.inl ⟨i, hi, rfl, ⟨hz, ht⟩, rfl, fin _ (by rw [if_neg h11])⟩⟩, fun h11 => Or.inl ⟨i, hi, rfl, ⟨hz, ht⟩, rfl, fin _ (by rw [if_pos h11])⟩⟩, fun z => absurd (by decide) z⟩
        | succ j ih =>
          intro k m4 hk w4 f4 c1 c2 c3
          have d2 : m4.1 214 (71 * i + 57 + 8 + k) = m.1 214 (71 * i + 57 + 8 + k) := f4.at (nRS (ρ := 40) rfl rfl)
          refine g_X12_again_98 ?_
          rw [nI_add, nI_1, nI_clamp (by omega), nI_clamp (by omega), d2]
          refine ⟨fun z => absurd ((le_l 5 5 rfl (by decide) (by omega)).mp z) (by omega), fun _ => ⟨nat_in (by omega) (by decide), nat_in (by omega) (by decide), ih (k + 1) _ (by omega) (w4.n rfl) (f4.i rfl) (fun q hq => (u_ne (fun z => (tg q hq).1 z.1)).trans (c1 q hq)) (fun s hs => (u_ne (by omega)).trans (c2 s hs)) (fun q hq => ?_)⟩⟩
          by_cases hqk : q = k
          · subst hqk
            have e : 71 * i + 65 + q = 71 * i + 57 + 8 + q := by omega
            rw [e]; exact u_eq
          · exact (u_ne (fun z => hqk z.2)).trans (c3 q (by omega))
      have L58 : ∀ (j s : Nat) (m4 : Wm), s + j = 8 → WT m4 → Fx (RS [20, 24, 29, 46, 47, 49, 52]) m m4 → (∀ k, k < 57 → m4.1 (tgt k).1 (tgt k).2 = m.1 214 (71 * i + k)) → (∀ q, q < s → m4.1 189 q = if m.1 214 (71 * i + 57 + q) = 1 then 1 else 0) →
          AW ad E0 μX12_again (d + 2) (fun r m' => (∃ i', i' < 2 ∧ nI i = nI i' ∧ (m.1 215 i' ≠ 0 ∧ m.1 216 i' = m.1 187 53) ∧ r = some (.int 1) ∧ agM m i' m') ∨ ((∀ i', i' < 2 → nI i = nI i' → ¬ (m.1 215 i' ≠ 0 ∧ m.1 216 i' = m.1 187 53)) ∧ r = some (.int 0) ∧ WT m' ∧ Fx (RS [20]) m m')) 58 [(0, .ref (ad 187)), (2, .int (nI (71 * i + 57))), (3, .int (nI s))] [] m4 := by
        intro j
        have tg : ∀ k, k < 57 → (tgt k).1 ≠ 189 := fun k hk => by
          have h : ∀ k : Fin 57, (tgt k.val).1 ≠ 189 := by decide +kernel
          exact h ⟨k, hk⟩
        induction j with
        | zero =>
          intro s m4 hs w4 f4 c1 c2
          obtain rfl : s = 8 := hs
          refine g_X12_again_58 ?_
          rw [add_l 8 8 rfl]
          exact ⟨fun _ => L98 5 0 m4 rfl w4 f4 c1 c2 (fun q hq => absurd hq (Nat.not_lt_zero q)), fun z => absurd (by decide) z⟩
        | succ j ih =>
          intro s m4 hs w4 f4 c1 c2
          have d2 : m4.1 214 (71 * i + 57 + s) = m.1 214 (71 * i + 57 + s) := f4.at (nRS (ρ := 40) rfl rfl)
          refine g_X12_again_58 ?_
          rw [nI_add, nI_1, nI_clamp (by omega), nI_clamp (by omega), d2]
          have nx : ∀ v : Int32, (v = if m.1 214 (71 * i + 57 + s) = 1 then 1 else 0) → AW ad E0 μX12_again (d + 2) (fun r m' => (∃ i', i' < 2 ∧ nI i = nI i' ∧ (m.1 215 i' ≠ 0 ∧ m.1 216 i' = m.1 187 53) ∧ r = some (.int 1) ∧ agM m i' m') ∨ ((∀ i', i' < 2 → nI i = nI i' → ¬ (m.1 215 i' ≠ 0 ∧ m.1 216 i' = m.1 187 53)) ∧ r = some (.int 0) ∧ WT m' ∧ Fx (RS [20]) m m')) 58 [(0, .ref (ad 187)), (2, .int (nI (71 * i + 57))), (3, .int (nI (s + 1)))] [] (uI m4 189 s v) := fun v hv =>
            ih (s + 1) _ (by omega) (w4.n rfl) (f4.i rfl) (fun q hq => (u_ne (fun z => tg q hq z.1)).trans (c1 q hq)) (fun q hq => by
              by_cases hqs : q = s
              · rw [hqs, ← hv]; exact u_eq
              · exact (u_ne (fun z => hqs z.2)).trans (c2 q (by omega)))
          exact ⟨fun z => absurd ((le_l 8 8 rfl (by decide) (by omega)).mp z) (by omega), fun _ => ⟨nat_in (by omega) (by decide), fun hz => ⟨nat_in (by omega) (by decide), nx 0 (by rw [if_neg hz])⟩, fun hz => ⟨nat_in (by omega) (by decide), nx 1 (by rw [if_pos hz])⟩⟩⟩
      exact L58 8 0 m3 rfl w3 f3 b1 (fun q hq => absurd hq (Nat.not_lt_zero q))
    · rw [ii i' a b]; exact fun q => ht q.2
  · refine ⟨0, by rw [if_neg hc], fun _ => no (fun i hi hx => absurd ?_ hc), fun z => absurd rfl z⟩
    have : x.toInt = i := by rw [hx, nI_toInt (by omega)]
    exact ⟨(fa_le _ _).mpr (by omega), (fa_le _ _).mpr (by omega)⟩
end KPM
end
