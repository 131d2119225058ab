/-! THE PLAN'S TEXT AS THE CLASS READS IT -/
/-- the cells of one plan -/
def PR (P b _k : Nat) : Prop := P ≤ b ∧ b ≤ P + 5
def slk (st : Nat) : Nat := if st = 0 then 0 else if st = 1 then 3 else if st = 2 then 2 else if st = 3 then 2 else 1
def PCV (p st rd gm : Nat) : Prop := st ≤ 5 ∧ 1 ≤ rd ∧ rd ≤ 13 ∧ 4 * gm ≤ p + slk st ∧ (st ≠ 0 → 1 ≤ gm) ∧ (rd = 13 → st = 0)
def PCC (P st rd gm : Nat) (us : Int32) (fi se th : Nat → Int32) (sn : Nat → Nat) (m : Wm) : Prop :=
  m.1 P 7 = nI st ∧ m.1 P 5 = nI rd ∧ m.1 P 6 = nI gm ∧ m.1 P 8 = us ∧ (∀ j, j < gm → m.1 (P + 1) j = fi j) ∧ (∀ j, j < gm → m.1 (P + 2) j = se j) ∧ (∀ j, j < gm → m.1 (P + 3) j = th j) ∧ (∀ ρ, ρ < rd → ρ < 12 → m.1 (P + 4) ρ = nI (sn ρ))
def PCT (P p : Nat) : PlS → Wm → Prop
  | (st, rd, gm, us, fi, se, th, sn), m => PCV p st rd gm ∧ PCC P st rd gm us fi se th sn m
def PCQ (m0 : Wm) (P n p : Nat) (c : Int32) (S : PlS) (r : Option Value) (m' : Wm) : Prop := WT m' ∧ Fx (PR P) m0 m' ∧ ((r = some (.int 1) ∧ ∃ S', pst n c S = some S' ∧ PCT P (p + 1) S' m') ∨ (r = some (.int 0) ∧ pst n c S = none))
section PCL
variable {ad : Nat → Nat} {d : Nat} {m m0 : Wm} {P n p rd gm : Nat} {us c : Int32} {fi se th : Nat → Int32} {sn : Nat → Nat}
theorem and1_n {y : Int32} : ¬ (y &&& 1) = 1 ↔ (y &&& 1) = 0 := by
  have h := t_and1 y
  have z1 : (1 : Int32).toInt = 1 := rfl
  have z0 : (0 : Int32).toInt = 0 := rfl
  rw [fa_eq, fa_eq, z1, z0]
  omega
theorem wP7 (hP : P = 134 ∨ P = 140) (w : WT m) {v : Int32} : WT (uI m P 7 v) := by rcases hP with rfl | rfl; exact w.n rfl; exact w.n rfl
theorem wP8 (hP : P = 134 ∨ P = 140) (w : WT m) {v : Int32} : WT (uI m P 8 v) := by rcases hP with rfl | rfl; exact w.n rfl; exact w.n rfl
theorem wP5 (hP : P = 134 ∨ P = 140) (w : WT m) {v : Nat} (h : v ≤ 13) : WT (uI m P 5 (nI v)) := by
  have e : (nI v).toInt = v := nI_toInt (by omega)
  rcases hP with rfl | rfl
  · exact w.t rfl (by omega) (by omega)
  · exact w.t rfl (by omega) (by omega)
theorem wP6 (hP : P = 134 ∨ P = 140) (w : WT m) {v : Nat} (h : v ≤ 48) : WT (uI m P 6 (nI v)) := by
  have e : (nI v).toInt = v := nI_toInt (by omega)
  rcases hP with rfl | rfl
  · exact w.t rfl (by omega) (by omega)
  · exact w.t rfl (by omega) (by omega)
theorem wPa (hP : P = 134 ∨ P = 140) (w : WT m) {k : Nat} {v : Int32} (h0 : 0 ≤ v.toInt) (h7 : v.toInt ≤ 7) : WT (uI m (P + 1) k v) := by
  rcases hP with rfl | rfl
  · exact w.t rfl h0 h7
  · exact w.t rfl h0 h7
theorem wPb (hP : P = 134 ∨ P = 140) (w : WT m) {k : Nat} {v : Int32} (h0 : 0 ≤ v.toInt) (h7 : v.toInt ≤ 7) : WT (uI m (P + 2) k v) := by
  rcases hP with rfl | rfl
  · exact w.t rfl h0 h7
  · exact w.t rfl h0 h7
theorem wPc (hP : P = 134 ∨ P = 140) (w : WT m) {k : Nat} {v : Int32} : WT (uI m (P + 3) k v) := by rcases hP with rfl | rfl; exact w.n rfl; exact w.n rfl
theorem wPd (hP : P = 134 ∨ P = 140) (w : WT m) {k v : Nat} (h : v ≤ 48) : WT (uI m (P + 4) k (nI v)) := by
  have e : (nI v).toInt = v := nI_toInt (by omega)
  rcases hP with rfl | rfl
  · exact w.t rfl (by omega) (by omega)
  · exact w.t rfl (by omega) (by omega)
theorem fP (hP : P = 134 ∨ P = 140) (_ : (0 : Nat) = 0) (f : Fx (PR P) m0 m) {j k : Nat} {v : Int32} (hj : j ≤ 5) : Fx (PR P) m0 (uI m (P + j) k v) := f.i ⟨by omega, by omega⟩
theorem fP0 (hP : P = 134 ∨ P = 140) (_ : (0 : Nat) = 0) (f : Fx (PR P) m0 m) {k : Nat} {v : Int32} : Fx (PR P) m0 (uI m P k v) := f.i ⟨by omega, by omega⟩
theorem PR_7 (hP : P = 134 ∨ P = 140) {S : List Nat} (hS : S.elem 7 = true) (a k : Nat) (h : PR P a k) : RS S a k := by
  unfold RS
  rw [rg_7 k (by have := h.1; omega) (by have := h.2; omega)]
  exact hS
theorem slk_le (st : Nat) : slk st ≤ 3 := by unfold slk; split <;> (try split) <;> (try split) <;> (try split) <;> omega
theorem e_openR (hP : P = 134 ∨ P = 140) (w : WT m) (f : Fx (PR P) m0 m) (h5 : m.1 P 5 = nI rd) (h6 : m.1 P 6 = nI gm) (hr : rd ≤ 12) (hg : gm ≤ 48) : Ct ad μX3_openRound d [.ref (ad P)] m (fun r m' => r = none ∧ WT m' ∧ Fx (PR P) m0 m' ∧ m'.1 P 5 = nI (rd + 1) ∧ m'.1 P 6 = nI gm ∧ m'.1 P 7 = 0 ∧ m'.1 P 8 = 0 ∧ (∀ j k, 1 ≤ j → j ≤ 3 → m'.1 (P + j) k = m.1 (P + j) k) ∧ (∀ ρ, ρ < rd → m'.1 (P + 4) ρ = m.1 (P + 4) ρ) ∧ (rd < 12 → m'.1 (P + 4) rd = nI gm) ∧ m'.1 1 1 = m.1 1 1 ∧ ∀ k, m'.1 (P + 5) k = m.1 (P + 5) k) := by
  refine v_X3_openRound (Pl_of hP) ?_
  rw [h5, h6]
  refine ⟨fun c => ?_, fun c => ?_⟩
  · have hc := (le_l 12 12 rfl (by decide) (by omega)).mp c
    refine g_X3_openRound_22 (Pl_of hP) ?_
    rw [h5, nI_1]
    refine ⟨rfl, wP7 hP (wP8 hP (wP5 hP w (by omega))), fP0 hP rfl (fP0 hP rfl (fP0 hP rfl f)), (u_ne (by omega)).trans ((u_ne (by omega)).trans u_eq), (u_ne (by omega)).trans ((u_ne (by omega)).trans ((u_ne (by omega)).trans h6)), u_eq, (u_ne (by omega)).trans u_eq, fun j k h1 h2 => (u_ne (by omega)).trans ((u_ne (by omega)).trans (u_ne (by omega))), fun ρ hρ => (u_ne (by omega)).trans ((u_ne (by omega)).trans (u_ne (by omega))), fun q => by omega, (u_ne (by omega)).trans ((u_ne (by omega)).trans (u_ne (by omega))), fun k => (u_ne (by omega)).trans ((u_ne (by omega)).trans (u_ne (by omega)))⟩
  · have hc : rd < 12 := Nat.lt_of_not_le (fun q => c ((le_l 12 12 rfl (by decide) (by omega)).mpr q))
    refine ⟨nat_in (by omega) (by decide), ?_⟩
    rw [nI_clamp (by omega)]
    refine g_X3_openRound_22 (Pl_of hP) ?_
    have e5 : (uI m (P + 4) rd (nI gm)).1 P 5 = nI rd := (u_ne (by omega)).trans h5
    rw [e5, nI_1]
    refine ⟨rfl, wP7 hP (wP8 hP (wP5 hP (wPd hP w hg) (by omega))), fP0 hP rfl (fP0 hP rfl (fP0 hP rfl (fP hP rfl f (by decide)))), (u_ne (by omega)).trans ((u_ne (by omega)).trans u_eq), (u_ne (by omega)).trans ((u_ne (by omega)).trans ((u_ne (by omega)).trans ((u_ne (by omega)).trans h6))), u_eq, (u_ne (by omega)).trans u_eq, fun j k h1 h2 => (u_ne (by omega)).trans ((u_ne (by omega)).trans ((u_ne (by omega)).trans (u_ne (by omega)))), fun ρ hρ => (u_ne (by omega)).trans ((u_ne (by omega)).trans ((u_ne (by omega)).trans (u_ne (by omega)))), fun _ => (u_ne (by omega)).trans ((u_ne (by omega)).trans ((u_ne (by omega)).trans u_eq)), (u_ne (by omega)).trans ((u_ne (by omega)).trans ((u_ne (by omega)).trans (u_ne (by omega)))), fun k => (u_ne (by omega)).trans ((u_ne (by omega)).trans ((u_ne (by omega)).trans (u_ne (by omega))))⟩
theorem e_addG (hP : P = 134 ∨ P = 140) (h6 : m.1 P 6 = nI gm) (hg : gm < 48) {x1 x2 x3 : Int32} : Ct ad μX3_addGame d [.ref (ad P), .int x1, .int x2, .int x3] m (fun r m' => r = none ∧ m' = uI (uI (uI (uI m (P + 1) gm x1) (P + 2) gm x2) (P + 3) gm x3) P 6 (nI (gm + 1))) := by
  refine v_X3_addGame (Pl_of hP) ?_
  rw [h6]
  have e1 : (uI m (P + 1) (nI gm).toNatClampNeg x1).1 P 6 = nI gm := (u_ne (by omega)).trans h6
  rw [e1]
  have e2 : (uI (uI m (P + 1) (nI gm).toNatClampNeg x1) (P + 2) (nI gm).toNatClampNeg x2).1 P 6 = nI gm := (u_ne (by omega)).trans ((u_ne (by omega)).trans h6)
  rw [e2]
  have e3 : (uI (uI (uI m (P + 1) (nI gm).toNatClampNeg x1) (P + 2) (nI gm).toNatClampNeg x2) (P + 3) (nI gm).toNatClampNeg x3).1 P 6 = nI gm := (u_ne (by omega)).trans ((u_ne (by omega)).trans ((u_ne (by omega)).trans h6))
  rw [e3, nI_1, nI_clamp (by omega)]
  exact ⟨fun q => absurd ((le_l 48 48 rfl (by decide) (by omega)).mp q) (by omega), fun _ => ⟨nat_in hg (by decide), nat_in hg (by decide), nat_in hg (by decide), rfl, rfl⟩⟩
/-- a side's digit, where the first one is wanted -/
theorem e_side0 (hP : P = 134 ∨ P = 140) (hn : n ≤ 8) (hp : p ≤ 76) (w : WT m) (f : Fx (PR P) m0 m) (V : PCV p 0 rd gm) (C : PCC P 0 rd gm us fi se th sn m) (hr : rd ≤ 12) : Ct ad μX3_takeSide (d + 1) [.ref (ad P), .int (c - 48), .int (nI n)] m (PCQ m0 P n p c (0, rd, gm, us, fi, se, th, sn)) := by
  obtain ⟨V1, V2, V3, V4, V5, V6⟩ := V
  obtain ⟨c1, c2, c3, c4, c5, c6, c7, c8⟩ := C
  have hs0 : slk 0 = 0 := rfl
  have tn' : (nI n).toInt = n := nI_toInt (by omega)
  have bad : ¬ pSd n us c → PCQ m0 P n p c (0, rd, gm, us, fi, se, th, sn) (some (.int 0)) m := fun h => ⟨w, f, Or.inr ⟨rfl, pst_0n (fun q => h q.2)⟩⟩
  refine v_X3_takeSide (Pl_of hP) ⟨fun q => bad (fun z => ?_), fun q1 => ⟨fun q => bad (fun z => ?_), fun q2 => ⟨fun q3 => ?_, fun q => bad (fun z => ?_)⟩⟩⟩
  · have := y_ltr (n := 0) rfl q; have := z.1.1; omega
  · have := z_le q; have := z.1.2; omega
  · have a1 := y_nltr (n := 0) rfl q1
    have a2 := z_nle q2
    rw [c4] at q3 ⊢
    have hS : pSd n us c := ⟨⟨a1, by omega⟩, and1_n.mpr q3⟩
    have e7 : (uI m P 8 (us ||| ((1 : Int32) <<< ((c - 48) &&& 31)))).1 P 7 = nI 0 := (u_ne (by omega)).trans c1
    have e6 : (uI m P 8 (us ||| ((1 : Int32) <<< ((c - 48) &&& 31)))).1 P 6 = nI gm := (u_ne (by omega)).trans c3
    rw [e7]
    refine ⟨fun z => absurd nI_0 z, fun _ => (e_addG hP e6 (by omega)).to ?_⟩
    rintro _ m1 ⟨rfl, e⟩
    subst e
    refine ⟨rfl, wP7 hP (wP6 hP (wPc hP (wPb hP (wPa hP (wP8 hP w) a1 (by omega)) a1 (by omega))) (by omega)), fP0 hP rfl (fP0 hP rfl (fP hP rfl (fP hP rfl (fP hP rfl (fP0 hP rfl f) (by decide)) (by decide)) (by decide))), Or.inl ⟨rfl, _, pst_0 hr hS, ⟨by decide, V2, V3, ?_, fun _ => by omega, fun _ => by omega⟩, u_eq, ?_, ?_, ?_, fun j hj => ?_, fun j hj => ?_, fun j hj => ?_, fun ρ h1 h2 => ?_⟩⟩
    · show 4 * (gm + 1) ≤ p + 1 + 3
      omega
    · exact (u_ne (by omega)).trans ((u_ne (by omega)).trans ((u_ne (by omega)).trans ((u_ne (by omega)).trans ((u_ne (by omega)).trans ((u_ne (by omega)).trans c2)))))
    · exact (u_ne (by omega)).trans u_eq
    · exact (u_ne (by omega)).trans ((u_ne (by omega)).trans ((u_ne (by omega)).trans ((u_ne (by omega)).trans ((u_ne (by omega)).trans u_eq))))
    · by_cases hjg : j = gm
      · subst hjg
        rw [upd_e]
        exact (u_ne (by omega)).trans ((u_ne (by omega)).trans ((u_ne (by omega)).trans ((u_ne (by omega)).trans u_eq)))
      · rw [upd_n hjg]
        exact (u_ne (by omega)).trans ((u_ne (by omega)).trans ((u_ne (by omega)).trans ((u_ne (by omega)).trans ((u_ne (by omega)).trans ((u_ne (by omega)).trans (c5 j (by omega)))))))
    · by_cases hjg : j = gm
      · subst hjg
        rw [upd_e]
        exact (u_ne (by omega)).trans ((u_ne (by omega)).trans ((u_ne (by omega)).trans u_eq))
      · rw [upd_n hjg]
        exact (u_ne (by omega)).trans ((u_ne (by omega)).trans ((u_ne (by omega)).trans ((u_ne (by omega)).trans ((u_ne (by omega)).trans ((u_ne (by omega)).trans (c6 j (by omega)))))))
    · by_cases hjg : j = gm
      · subst hjg
        rw [upd_e]
        exact (u_ne (by omega)).trans ((u_ne (by omega)).trans u_eq)
      · rw [upd_n hjg]
        exact (u_ne (by omega)).trans ((u_ne (by omega)).trans ((u_ne (by omega)).trans ((u_ne (by omega)).trans ((u_ne (by omega)).trans ((u_ne (by omega)).trans (c7 j (by omega)))))))
    · exact (u_ne (by omega)).trans ((u_ne (by omega)).trans ((u_ne (by omega)).trans ((u_ne (by omega)).trans ((u_ne (by omega)).trans ((u_ne (by omega)).trans (c8 ρ h1 h2))))))
  · rw [c4] at q
    exact q (and1_n.mp z.2)
/-- where the other one is wanted -/
theorem e_side3 (hP : P = 134 ∨ P = 140) (hn : n ≤ 8) (hp : p ≤ 76) (w : WT m) (f : Fx (PR P) m0 m) (V : PCV p 3 rd gm) (C : PCC P 3 rd gm us fi se th sn m) (hr : rd ≤ 12) : Ct ad μX3_takeSide (d + 1) [.ref (ad P), .int (c - 48), .int (nI n)] m (PCQ m0 P n p c (3, rd, gm, us, fi, se, th, sn)) := by
  obtain ⟨V1, V2, V3, V4, V5, V6⟩ := V
  obtain ⟨c1, c2, c3, c4, c5, c6, c7, c8⟩ := C
  have hs0 : slk 3 = 2 := rfl
  have hgm := V5 (by decide)
  obtain ⟨g, rfl⟩ : ∃ g, gm = g + 1 := ⟨gm - 1, by omega⟩
  have tn' : (nI n).toInt = n := nI_toInt (by omega)
  have bad : ¬ pSd n us c → PCQ m0 P n p c (3, rd, g + 1, us, fi, se, th, sn) (some (.int 0)) m := fun h => ⟨w, f, Or.inr ⟨rfl, pst_3n (fun q => h q.2)⟩⟩
  refine v_X3_takeSide (Pl_of hP) ⟨fun q => bad (fun z => ?_), fun q1 => ⟨fun q => bad (fun z => ?_), fun q2 => ⟨fun q3 => ?_, fun q => bad (fun z => ?_)⟩⟩⟩
  · have := y_ltr (n := 0) rfl q; have := z.1.1; omega
  · have := z_le q; have := z.1.2; omega
  · have a1 := y_nltr (n := 0) rfl q1
    have a2 := z_nle q2
    rw [c4] at q3 ⊢
    have hS : pSd n us c := ⟨⟨a1, by omega⟩, and1_n.mpr q3⟩
    have e7 : (uI m P 8 (us ||| ((1 : Int32) <<< ((c - 48) &&& 31)))).1 P 7 = nI 3 := (u_ne (by omega)).trans c1
    have e6 : (uI m P 8 (us ||| ((1 : Int32) <<< ((c - 48) &&& 31)))).1 P 6 = nI (g + 1) := (u_ne (by omega)).trans c3
    rw [e7, e6, nI_pred, nI_clamp (by omega)]
    refine ⟨fun _ => ⟨fun z => absurd z (nI_nle (by omega) (by omega)), fun _ => ⟨nat_in (by omega) (by decide), ?_⟩⟩, fun z => absurd z (by decide)⟩
    refine ⟨wP7 hP (wPb hP (wP8 hP w) a1 (by omega)), fP0 hP rfl (fP hP rfl (fP0 hP rfl f) (by decide)), Or.inl ⟨rfl, _, pst_3 hr hS, ⟨by decide, V2, V3, ?_, fun _ => by omega, fun _ => by omega⟩, u_eq, ?_, ?_, ?_, fun j hj => ?_, fun j hj => ?_, fun j hj => ?_, fun ρ h1 h2 => ?_⟩⟩
    · show 4 * (g + 1) ≤ p + 1 + 1
      omega
    · exact (u_ne (by omega)).trans ((u_ne (by omega)).trans ((u_ne (by omega)).trans c2))
    · exact (u_ne (by omega)).trans ((u_ne (by omega)).trans ((u_ne (by omega)).trans c3))
    · exact (u_ne (by omega)).trans ((u_ne (by omega)).trans u_eq)
    · exact (u_ne (by omega)).trans ((u_ne (by omega)).trans ((u_ne (by omega)).trans (c5 j hj)))
    · rw [Nat.add_sub_cancel]
      by_cases hjg : j = g
      · subst hjg
        rw [upd_e]
        exact (u_ne (by omega)).trans u_eq
      · rw [upd_n hjg]
        exact (u_ne (by omega)).trans ((u_ne (by omega)).trans ((u_ne (by omega)).trans (c6 j hj)))
    · exact (u_ne (by omega)).trans ((u_ne (by omega)).trans ((u_ne (by omega)).trans (c7 j hj)))
    · exact (u_ne (by omega)).trans ((u_ne (by omega)).trans ((u_ne (by omega)).trans (c8 ρ h1 h2)))
  · rw [c4] at q
    exact q (and1_n.mp z.2)
/-- a game is thrown -/
theorem e_throw (hP : P = 134 ∨ P = 140) (w : WT m) (f : Fx (PR P) m0 m) {st st' : Nat} {x2 : Int32} (hst : st = 1 ∨ st = 4) (hp : p ≤ 76) (V : PCV p st rd gm) (C : PCC P st rd gm us fi se th sn m) (h33 : c = 33) (hst' : 4 * gm ≤ p + 1 + slk st' ∧ st' ≤ 5) : Ct ad μX3_takeThrow d [.ref (ad P), .int c, .int x2, .int (nI st')] m (fun r m' => r = some (.int 1) ∧ WT m' ∧ Fx (PR P) m0 m' ∧ PCT P (p + 1) (st', rd, gm, us, fi, se, upd th (gm - 1) (th (gm - 1) ||| x2), sn) m') := by
  obtain ⟨V1, V2, V3, V4, V5, V6⟩ := V
  obtain ⟨c1, c2, c3, c4, c5, c6, c7, c8⟩ := C
  have hs0 := slk_le st
  have hgm := V5 (by omega)
  obtain ⟨g, rfl⟩ : ∃ g, gm = g + 1 := ⟨gm - 1, by omega⟩
  refine v_X3_takeThrow (Pl_of hP) ⟨fun _ => ?_, fun q => absurd h33 q⟩
  rw [c3, nI_pred, nI_clamp (by omega)]
  refine ⟨fun z => absurd z (nI_nle (by omega) (by omega)), fun _ => ⟨nat_in (by omega) (by decide), nat_in (by omega) (by decide), rfl, wP7 hP (wPc hP w), fP0 hP rfl (fP hP rfl f (by decide)), ⟨hst'.2, V2, V3, hst'.1, fun _ => by omega, fun _ => by omega⟩, u_eq, ?_, ?_, ?_, fun j hj => ?_, fun j hj => ?_, fun j hj => ?_, fun ρ h1 h2 => ?_⟩⟩
  · exact (u_ne (by omega)).trans ((u_ne (by omega)).trans c2)
  · exact (u_ne (by omega)).trans ((u_ne (by omega)).trans c3)
  · exact (u_ne (by omega)).trans ((u_ne (by omega)).trans c4)
  · exact (u_ne (by omega)).trans ((u_ne (by omega)).trans (c5 j hj))
  · exact (u_ne (by omega)).trans ((u_ne (by omega)).trans (c6 j hj))
  · rw [Nat.add_sub_cancel]
    by_cases hjg : j = g
    · subst hjg
      rw [upd_e, c7 j (by omega)]
      exact (u_ne (by omega)).trans u_eq
    · rw [upd_n hjg]
      exact (u_ne (by omega)).trans ((u_ne (by omega)).trans (c7 j hj))
  · exact (u_ne (by omega)).trans ((u_ne (by omega)).trans (c8 ρ h1 h2))
theorem e_break (hP : P = 134 ∨ P = 140) (w : WT m) (f : Fx (PR P) m0 m) {st : Nat} {S : PlS} (hst : st = 4 ∨ st = 5) (hp : p ≤ 76) (V : PCV p st rd gm) (C : PCC P st rd gm us fi se th sn m) (hr : rd ≤ 12) (hS : pst n c S = pBr c rd gm us fi se th sn) : Ct ad μX3_takeBreak (d + 1) [.ref (ad P), .int c] m (PCQ m0 P n p c S) := by
  obtain ⟨V1, V2, V3, V4, V5, V6⟩ := V
  obtain ⟨c1, c2, c3, c4, c5, c6, c7, c8⟩ := C
  have hs0 : slk st = 1 := by rcases hst with rfl | rfl <;> rfl
  refine v_X3_takeBreak (Pl_of hP) ⟨fun h59 => ⟨fun h44 => ⟨wP7 hP w, fP0 hP rfl f, Or.inr ⟨rfl, hS.trans (pBr_n h59 h44)⟩⟩, fun h44 => ?_⟩, fun h59 => (e_openR hP w f c2 c3 hr (by omega)).to ?_⟩
  · subst h44
    refine ⟨wP7 hP w, fP0 hP rfl f, Or.inl ⟨rfl, _, hS.trans pBr_c, ⟨by decide, V2, V3, ?_, fun q => absurd rfl q, fun _ => rfl⟩, u_eq, (u_ne (by omega)).trans c2, (u_ne (by omega)).trans c3, (u_ne (by omega)).trans c4, fun j hj => (u_ne (by omega)).trans (c5 j hj), fun j hj => (u_ne (by omega)).trans (c6 j hj), fun j hj => (u_ne (by omega)).trans (c7 j hj), fun ρ h1 h2 => (u_ne (by omega)).trans (c8 ρ h1 h2)⟩⟩
    show 4 * gm ≤ p + 1 + 0
    omega
  · subst h59
    rintro _ m1 ⟨rfl, w1, f1, k5, k6, k7, k8, k9, k10, k11, -⟩
    refine ⟨rfl, w1, f1, Or.inl ⟨rfl, _, hS.trans pBr_s, ⟨by decide, by omega, by omega, ?_, fun q => absurd rfl q, fun _ => rfl⟩, k7, k5, k6, k8, fun j hj => (k9 1 j (by decide) (by decide)).trans (c5 j hj), fun j hj => (k9 2 j (by decide) (by decide)).trans (c6 j hj), fun j hj => (k9 3 j (by decide) (by decide)).trans (c7 j hj), fun ρ h1 h2 => ?_⟩⟩
    · show 4 * gm ≤ p + 1 + 0
      omega
    · by_cases hρ : ρ = rd
      · rw [hρ, updN_e]; exact k11 (by omega)
      · rw [updN_n hρ]; exact (k10 ρ (by omega)).trans (c8 ρ (by omega) h2)
theorem e_dash (hP : P = 134 ∨ P = 140) (w : WT m) (f : Fx (PR P) m0 m) {st : Nat} (hst : st = 1 ∨ st = 2) (hp : p ≤ 76) (V : PCV p st rd gm) (C : PCC P st rd gm us fi se th sn m) (h33 : st = 1 → c ≠ 33) : Ct ad μX3_takeDash d [.ref (ad P), .int c] m (PCQ m0 P n p c (st, rd, gm, us, fi, se, th, sn)) := by
  obtain ⟨V1, V2, V3, V4, V5, V6⟩ := V
  obtain ⟨c1, c2, c3, c4, c5, c6, c7, c8⟩ := C
  have hs0 : slk st ≤ 3 := slk_le st
  refine v_X3_takeDash (Pl_of hP) ⟨fun h => ?_, fun h => ⟨w, f, Or.inr ⟨rfl, ?_⟩⟩⟩
  · subst h
    have hS : pst n 45 (st, rd, gm, us, fi, se, th, sn) = some (3, rd, gm, us, fi, se, th, sn) := by
      rcases hst with rfl | rfl
      · exact pst_1d
      · exact pst_2d
    refine ⟨wP7 hP w, fP0 hP rfl f, Or.inl ⟨rfl, _, hS, ⟨by decide, V2, V3, ?_, fun _ => V5 (by omega), fun _ => by omega⟩, u_eq, (u_ne (by omega)).trans c2, (u_ne (by omega)).trans c3, (u_ne (by omega)).trans c4, fun j hj => (u_ne (by omega)).trans (c5 j hj), fun j hj => (u_ne (by omega)).trans (c6 j hj), fun j hj => (u_ne (by omega)).trans (c7 j hj), fun ρ h1 h2 => (u_ne (by omega)).trans (c8 ρ h1 h2)⟩⟩
    show 4 * gm ≤ p + 1 + 2
    omega
  · rcases hst with rfl | rfl
    · exact pst_1n (h33 rfl) h
    · exact pst_2n h
theorem e_takeP (hP : P = 134 ∨ P = 140) (hn : n ≤ 8) (hp : p ≤ 76) (w : WT m) (f : Fx (PR P) m0 m) {st : Nat} (V : PCV p st rd gm) (C : PCC P st rd gm us fi se th sn m) : Ct ad μX3_take (d + 2) [.ref (ad P), .int c, .int (nI n)] m (fun r m' => ∃ v : Int32, r = some (.int v) ∧ PCQ m0 P n p c (st, rd, gm, us, fi, se, th, sn) (some (.int v)) m') := by
  have V0 := V
  have C0 := C
  obtain ⟨V1, V2, V3, V4, V5, V6⟩ := V
  obtain ⟨c1, c2, c3, c4, c5, c6, c7, c8⟩ := C
  have wd : ∀ r m', PCQ m0 P n p c (st, rd, gm, us, fi, se, th, sn) r m' → ∃ v : Int32, r = some (Value.int v) ∧ ((v = 0 → ∃ v : Int32, some (Value.int 0) = some (Value.int v) ∧ PCQ m0 P n p c (st, rd, gm, us, fi, se, th, sn) (some (.int v)) m') ∧ (¬ v = 0 → ∃ v : Int32, some (Value.int 1) = some (Value.int v) ∧ PCQ m0 P n p c (st, rd, gm, us, fi, se, th, sn) (some (.int v)) m')) := by
    rintro r m' ⟨k1, k2, k3⟩
    rcases k3 with ⟨rfl, k4⟩ | ⟨rfl, k4⟩
    · exact ⟨1, rfl, fun q => absurd q (by decide), fun _ => ⟨1, rfl, k1, k2, Or.inl ⟨rfl, k4⟩⟩⟩
    · exact ⟨0, rfl, fun _ => ⟨0, rfl, k1, k2, Or.inr ⟨rfl, k4⟩⟩, fun q => absurd rfl q⟩
  have wb : ∀ r m', PCQ m0 P n p c (st, rd, gm, us, fi, se, th, sn) r m' → ∃ v : Int32, r = some (Value.int v) ∧ (bz v ∧ ∃ v' : Int32, some (Value.int v) = some (Value.int v') ∧ PCQ m0 P n p c (st, rd, gm, us, fi, se, th, sn) (some (.int v')) m') := by
    rintro r m' ⟨k1, k2, k3⟩
    rcases k3 with ⟨rfl, k4⟩ | ⟨rfl, k4⟩
    · exact ⟨1, rfl, bz_1, 1, rfl, k1, k2, Or.inl ⟨rfl, k4⟩⟩
    · exact ⟨0, rfl, bz_0, 0, rfl, k1, k2, Or.inr ⟨rfl, k4⟩⟩
  have i : ∀ j, j ≤ 4 → (nI st = nI j ↔ st = j) := fun j hj => nI_eq (a := st) (b := j) (by omega) (by omega)
  have i0 := i 0 (by decide)
  have i1 := i 1 (by decide)
  have i2 := i 2 (by decide)
  have i3 := i 3 (by decide)
  have i4 := i 4 (by decide)
  refine v_X3_take (d := d + 1) (Pl_of hP) ?_
  rw [c1, c2]
  refine ⟨fun q => ?_, fun q => ?_, fun q => ?_, fun q => ?_, fun q => ?_, fun q0 q1 q2 q3 q4 => ?_⟩
  · obtain rfl := i0.mp q
    refine ⟨fun q12 => ?_, fun q12 => (e_side0 hP hn hp w f V0 C0 ?_).to wd⟩
    · have := (lt_l 12 12 rfl (by decide) (by omega)).mp q12
      exact ⟨0, rfl, w, f, Or.inr ⟨rfl, pst_0n (fun z => by omega)⟩⟩
    · exact Nat.le_of_not_lt (fun z => q12 ((lt_l 12 12 rfl (by decide) (by omega)).mpr z))
  · obtain rfl := i1.mp q
    by_cases h33 : c = 33
    · refine (e_throw (d := d + 1) (st' := 2) hP w f (Or.inl rfl) hp V0 C0 h33 ⟨?_, by decide⟩).to ?_
      · have e1 : slk 1 = 3 := rfl
        show 4 * gm ≤ p + 1 + 2
        omega
      · rintro _ m1 ⟨rfl, w1, f1, k⟩
        exact ⟨1, rfl, fun _ => ⟨1, rfl, w1, f1, Or.inl ⟨rfl, _, by rw [h33]; exact pst_1t, k⟩⟩, fun z => absurd z (by decide)⟩
    · exact v_X3_takeThrow (Pl_of hP) ⟨fun z => absurd z h33, fun _ => ⟨0, rfl, fun z => absurd rfl z, fun _ => (e_dash (d := d + 1) hP w f (Or.inl rfl) hp V0 C0 (fun _ => h33)).to wd⟩⟩
  · obtain rfl := i2.mp q
    exact (e_dash (d := d + 1) hP w f (Or.inr rfl) hp V0 C0 (fun z => absurd z (by decide))).to wb
  · obtain rfl := i3.mp q
    have hr : rd ≤ 12 := by
      by_cases h13 : rd = 13
      · exact absurd (V6 h13) (by decide)
      · omega
    exact ⟨fun q12 => by have := (lt_l 12 12 rfl (by decide) (by omega)).mp q12; omega, fun q12 => (e_side3 hP hn hp w f V0 C0 hr).to wd⟩
  · obtain rfl := i4.mp q
    have hr : rd ≤ 12 := by
      by_cases h13 : rd = 13
      · exact absurd (V6 h13) (by decide)
      · omega
    by_cases h33 : c = 33
    · refine (e_throw (d := d + 1) (st' := 5) hP w f (Or.inr rfl) hp V0 C0 h33 ⟨?_, by decide⟩).to ?_
      · have e1 : slk 4 = 1 := rfl
        show 4 * gm ≤ p + 1 + 1
        omega
      · rintro _ m1 ⟨rfl, w1, f1, k⟩
        exact ⟨1, rfl, fun _ => ⟨1, rfl, w1, f1, Or.inl ⟨rfl, _, by rw [h33]; exact pst_4t, k⟩⟩, fun z => absurd z (by decide)⟩
    · exact v_X3_takeThrow (Pl_of hP) ⟨fun z => absurd z h33, fun _ => ⟨0, rfl, fun z => absurd rfl z, fun _ => (e_break (d := d) hP w f (Or.inl rfl) hp V0 C0 hr (pst_4b h33)).to wd⟩⟩
  · have h5 : st = 5 := by
      have a0 : st ≠ 0 := fun z => q0 (i0.mpr z)
      have a1 : st ≠ 1 := fun z => q1 (i1.mpr z)
      have a2 : st ≠ 2 := fun z => q2 (i2.mpr z)
      have a3 : st ≠ 3 := fun z => q3 (i3.mpr z)
      have a4 : st ≠ 4 := fun z => q4 (i4.mpr z)
      omega
    subst h5
    have hr : rd ≤ 12 := by
      by_cases h13 : rd = 13
      · exact absurd (V6 h13) (by decide)
      · omega
    exact (e_break (d := d) hP w f (Or.inr rfl) hp V0 C0 hr pst_5b).to wb
end PCL
