/-! plan(): THE CLASS -/
section PCM
variable {ad : Nat → Nat} {d : Nat} {m : Wm}
def pcR (m : Wm) (P : Nat) (O : Nat ⊕ PlS) (r : Option Value) (m' : Wm) : Prop := WT m' ∧ Fx (PR P) m m' ∧ (∀ q, O = .inl q → r = some (.int (nI q)) ∧ q ≤ 76) ∧ ∀ S, O = .inr S → r = some (.int (-1)) ∧ pok S = true ∧ ∃ p, p ≤ 76 ∧ PCT P p S m'
theorem e_compP {P n t : Nat} {fi se th : Nat → Int32} {sn : Nat → Nat} (hP : P = 134 ∨ P = 140) (w : WT m) (hn8 : n ≤ 8) (ht : m.1 1 1 = nI t) (ht80 : t ≤ 80) (ht0 : t ≠ 0) (hsn : sn 0 = 0) : Ct ad μX3_compile (d + 3) [.ref (ad P), .ref (ad 1), .int (nI n)] m (pcR m P (MO (pst n) pok (m.1 2) (decide (76 < t)) (minT t 76) 0 (0, 1, 0, 0, fi, se, th, sn))) := by
  generalize hO0 : MO (pst n) pok (m.1 2) (decide (76 < t)) (minT t 76) 0 (0, 1, 0, 0, fi, se, th, sn) = O
  have e76 : minT t 76 ≤ 76 := by unfold minT; split <;> omega
  have et : minT t 76 ≤ t := by unfold minT; split <;> omega
  have L : ∀ (k p : Nat) (S : PlS) (m1 : Wm), minT t 76 - p < k → p ≤ minT t 76 → WT m1 → Fx (PR P) m m1 → PCT P p S m1 → MO (pst n) pok (m.1 2) (decide (76 < t)) (minT t 76 - p) p S = O →
      AW ad E0 μX3_compile (d + 3) (pcR m P O) 30 [(0, .ref (ad P)), (1, .ref (ad 1)), (2, .int (nI n)), (3, .int (nI (minT t 76))), (4, .int (nI p))] [] m1 := by
    intro k
    induction k with
    | zero => intros; omega
    | succ k ih =>
      intro p S m1 hk hp w1 f1 hS hO
      obtain ⟨st, rd, gm, us, fi, se, th, sn⟩ := S
      obtain ⟨V, C⟩ := hS
      have t1 : m1.1 1 1 = nI t := (f1.at (a := 1) (k := 1) (by unfold PR; omega)).trans ht
      have t2 : ∀ k, m1.1 2 k = m.1 2 k := fun k => f1.at (a := 2) (k := k) (by unfold PR; omega)
      refine g_X3_compile_30 (Pl_of hP) ⟨fun c => ?_, fun c => ?_⟩
      · have hpe : p = minT t 76 := by have := (nI_leI (a := minT t 76) (b := p) (by omega) (by omega)).mp c; omega
        rw [t1, C.1]
        rw [show minT t 76 - p = 0 by omega] at hO
        have i4 : nI st = 4 ↔ st = 4 := nI_eq (a := st) (b := 4) (by have := V.1; omega) (by decide)
        have i5 : nI st = 5 ↔ st = 5 := nI_eq (a := st) (b := 5) (by have := V.1; omega) (by decide)
        have bad : O = .inl p → pcR m P O (some (.int (nI (minT t 76)))) m1 := fun h => ⟨w1, f1, fun q2 h2 => (by rw [h] at h2; cases h2; exact ⟨by rw [hpe], by omega⟩), fun S2 h2 => (by rw [h] at h2; cases h2)⟩
        have good : decide (76 < t) = false → pok (st, rd, gm, us, fi, se, th, sn) = true → pcR m P O (some (.int (-1))) m1 := fun hb hk2 => by
          rw [MO_e ⟨hb, hk2⟩] at hO
          exact ⟨w1, f1, fun q2 h2 => (by rw [h2] at hO; cases hO), fun S2 h2 => (by rw [h2] at hO; cases hO; exact ⟨rfl, hk2, p, by omega, V, C⟩)⟩
        refine ⟨fun q => bad ?_, fun q => ⟨fun q4 => good ?_ ?_, fun q4 => ⟨fun q5 => good ?_ ?_, fun q5 => bad ?_⟩⟩⟩
        · have q' := (lt_l 76 76 rfl (by decide) (by omega)).mp q
          have hb : decide (76 < t) = true := decide_eq_true q'
          rw [← hO]
          exact MO_n (by rw [hb]; exact fun z => absurd z.1 (by decide))
        · exact decide_eq_false (fun z => q ((lt_l 76 76 rfl (by decide) (by omega)).mpr z))
        · exact decide_eq_true (Or.inl (i4.mp q4))
        · exact decide_eq_false (fun z => q ((lt_l 76 76 rfl (by decide) (by omega)).mpr z))
        · exact decide_eq_true (Or.inr (i5.mp q5))
        · rw [← hO]
          refine MO_n (fun z => ?_)
          have := of_decide_eq_true z.2
          rcases this with z | z
          · exact q4 (i4.mpr z)
          · exact q5 (i5.mpr z)
      · have hpe : p < minT t 76 := Nat.lt_of_not_le (fun z => c ((nI_leI (a := minT t 76) (b := p) (by omega) (by omega)).mpr z))
        rw [nI_clamp (by omega), t2]
        refine ⟨nat_in (by omega) (by decide), (e_takeP (d := d) (m0 := m) hP hn8 (by omega) w1 f1 V C).to ?_⟩
        rintro r m2 ⟨v, rfl, w2, f2, h⟩
        rcases h with ⟨hv, S2, e2, hS2⟩ | ⟨hv, e2⟩
        · cases hv
          rw [MO_ss hpe e2] at hO
          refine ⟨1, rfl, fun _ => ?_, fun z => absurd z (by decide)⟩
          rw [nI_1]
          exact ih (p + 1) S2 m2 (by omega) (by omega) w2 f2 hS2 hO
        · cases hv
          rw [ep_s hpe, MO_f e2] at hO
          refine ⟨0, rfl, fun z => absurd rfl z, fun _ => ⟨w2, f2, fun q2 h2 => ?_, fun S2 h2 => ?_⟩⟩
          · rw [h2] at hO; cases hO; exact ⟨rfl, by omega⟩
          · rw [h2] at hO; cases hO
  refine v_X3_compile (d := d + 2) (Pl_of hP) ((e_clearP (Pl_of hP)).to ?_)
  rintro _ m1 ⟨rfl, e⟩
  subst e
  have w1 : WT (uI (uI m P 5 0) P 6 0) := wP6 (v := 0) hP (wP5 (v := 0) hP w (by decide)) (by decide)
  have f1 : Fx (PR P) m (uI (uI m P 5 0) P 6 0) := fP0 hP rfl (fP0 hP rfl Fx.rf)
  have h11 : (uI (uI m P 5 0) P 6 0).1 1 1 = nI t := (u_ne (by omega)).trans ((u_ne (by omega)).trans ht)
  rw [h11]
  refine ⟨rfl, fun _ => (e_openR (rd := 0) (gm := 0) hP w1 f1 ((u_ne (by omega)).trans u_eq) u_eq (by decide) (by decide)).to ?_, fun q => absurd ((nI_eq (a := t) (b := 0) (by omega) (by decide)).mp q) ht0⟩
  rintro _ m2 ⟨rfl, w2, f2, k5, k6, k7, k8, -, -, k11, k12, -⟩
  refine ⟨rfl, ?_⟩
  rw [k12, h11, minT_i ht80]
  exact L 81 0 (0, 1, 0, 0, fi, se, th, sn) m2 (by omega) (Nat.zero_le _) w2 f2 ⟨⟨by decide, by decide, by decide, Nat.zero_le _, fun q => absurd rfl q, fun q => absurd q (by decide)⟩, k7, k5, k6, k8, fun j hj => absurd hj (Nat.not_lt_zero j), fun j hj => absurd hj (Nat.not_lt_zero j), fun j hj => absurd hj (Nat.not_lt_zero j), fun ρ h1 _ => by
    have : ρ = 0 := by omega
    subst this
    rw [hsn]
    exact k11 (by decide)⟩ hO0
theorem e_compP0 {P n : Nat} (hP : P = 134 ∨ P = 140) (w : WT m) (ht : m.1 1 1 = 0) : Ct ad μX3_compile (d + 3) [.ref (ad P), .ref (ad 1), .int (nI n)] m (fun r m' => WT m' ∧ Fx (PR P) m m' ∧ r = some (.int (-1)) ∧ m'.1 P 5 = 0 ∧ m'.1 P 6 = 0) := by
  refine v_X3_compile (d := d + 2) (Pl_of hP) ((e_clearP (Pl_of hP)).to ?_)
  rintro _ m1 ⟨rfl, e⟩
  subst e
  have w1 : WT (uI (uI m P 5 0) P 6 0) := wP6 (v := 0) hP (wP5 (v := 0) hP w (by decide)) (by decide)
  have f1 : Fx (PR P) m (uI (uI m P 5 0) P 6 0) := fP0 hP rfl (fP0 hP rfl Fx.rf)
  have h11 : (uI (uI m P 5 0) P 6 0).1 1 1 = 0 := (u_ne (by omega)).trans ((u_ne (by omega)).trans ht)
  exact ⟨rfl, fun q => absurd h11 q, fun _ => ⟨w1, f1, rfl, (u_ne (by omega)).trans u_eq, u_eq⟩⟩
/-- which plan is in use, which one is spare -/
def PRF (m : Wm) (P Q : Nat) : Prop := m.2.2 0 9 = some P ∧ m.2.2 0 10 = some Q ∧ ((P = 134 ∧ Q = 140) ∨ (P = 140 ∧ Q = 134))
def plC (m : Wm) (P Q : Nat) (O : Nat ⊕ PlS) (r : Option Value) (m' : Wm) : Prop := WT m' ∧ Fx (RS [0, 7, 44, 54]) m m' ∧ m'.1 1 1 = 0 ∧
  (∀ q, O = .inl q → r = some (.int (-1 - nI q)) ∧ PRF m' P Q ∧ (∀ b k, P ≤ b → b ≤ P + 5 → m'.1 b k = m.1 b k) ∧ Fx (RS [0, 7]) m m') ∧
  ∀ st rd gm us fi se th sn, O = .inr (st, rd, gm, us, fi, se, th, sn) → r = some (.int (nI rd)) ∧ PRF m' Q P ∧ m'.1 0 11 = 0 ∧ (1 ≤ rd ∧ rd ≤ 12 ∧ 1 ≤ gm ∧ gm ≤ 20) ∧ PCC Q st rd gm us fi se th sn m'
theorem e_planC {P Q n t : Nat} {fi se th : Nat → Int32} {sn : Nat → Nat} (w : WT m) (hn : m.1 3 3 = nI n) (hn8 : n ≤ 8) (ht : m.1 1 1 = nI t) (ht80 : t ≤ 80) (ht0 : t ≠ 0) (hsn : sn 0 = 0) (hR : PRF m P Q) : Ct ad μX11_plan (d + 4) [.ref (ad 0)] m (plC m P Q (MO (pst n) pok (m.1 2) (decide (76 < t)) (minT t 76) 0 (0, 1, 0, 0, fi, se, th, sn))) := by
  obtain ⟨h9, h10, hPQ⟩ := hR
  have hP : P = 134 ∨ P = 140 := by omega
  have hQ : Q = 134 ∨ Q = 140 := by omega
  refine v_X11_plan (d := d + 3) ⟨Q, h10, Pl_of hQ, ?_⟩
  rw [hn]
  refine (e_compP (d := d) (fi := fi) (se := se) (th := th) (sn := sn) hQ w hn8 ht ht80 ht0 hsn).to ?_
  generalize MO (pst n) pok (m.1 2) (decide (76 < t)) (minT t 76) 0 (0, 1, 0, 0, fi, se, th, sn) = O
  rintro r m1 ⟨w1, f1, hq, hS⟩
  have w2 : WT (uI m1 1 1 (0 : Int32)) := w1.t rfl (by decide) (by decide)
  have f1' : Fx (RS [0, 7]) m m1 := (Fx.rf (S := RS [0, 7])).tr f1 (PR_7 hQ rfl)
  have f2 : Fx (RS [0, 7]) m (uI m1 1 1 (0 : Int32)) := f1'.i rfl
  have r9 : (uI m1 1 1 (0 : Int32)).2.2 0 9 = some P := (f1 0 9 (by unfold PR; omega)).2.2.trans h9
  have r10 : (uI m1 1 1 (0 : Int32)).2.2 0 10 = some Q := (f1 0 10 (by unfold PR; omega)).2.2.trans h10
  cases hO : O with
  | inl q =>
    obtain ⟨rfl, q76⟩ := hq q hO
    refine ⟨nI q, rfl, fun z => absurd z.symm (m1_ne q (by omega)), fun _ => ⟨w2, (Fx.rf (S := RS [0, 7, 44, 54])).tr f2 (RS_sub rfl), rfl, fun q2 h2 => ?_, fun _ _ _ _ _ _ _ _ h2 => by cases h2⟩⟩
    cases h2
    exact ⟨rfl, ⟨r9, r10, hPQ⟩, fun b k hb1 hb2 => (u_ne (by omega)).trans (f1.at (by unfold PR; omega)), f2⟩
  | inr S =>
    obtain ⟨rfl, hk2, p, hp, hS2⟩ := hS S hO
    obtain ⟨st, rd, gm, us, fi', se', th', sn'⟩ := S
    obtain ⟨V, C⟩ := hS2
    obtain ⟨V1, V2, V3, V4, V5, V6⟩ := V
    have hsl := slk_le st
    refine ⟨-1, rfl, fun _ => ⟨P, r9, Pl_of hP, Q, r10, Pl_of hQ, ?_⟩, fun z => absurd rfl z⟩
    have w3 : WT (uI (uR (uR (uI m1 1 1 (0 : Int32)) 0 9 (some Q)) 0 10 (some P)) 0 11 (0 : Int32)) := ((w2.rP (Or.inl rfl) hQ).rP (Or.inr rfl) hP).n rfl
    have f3 : Fx (RS [0, 7, 44, 54]) m (uI (uR (uR (uI m1 1 1 (0 : Int32)) 0 9 (some Q)) 0 10 (some P)) 0 11 (0 : Int32)) := (((Fx.rf (S := RS [0, 7, 44, 54])).tr f2 (RS_sub rfl)).r rfl |>.r rfl).i rfl
    have n9 : (uI (uR (uR (uI m1 1 1 (0 : Int32)) 0 9 (some Q)) 0 10 (some P)) 0 11 (0 : Int32)).2.2 0 9 = some Q := rfl
    have n10 : (uI (uR (uR (uI m1 1 1 (0 : Int32)) 0 9 (some Q)) 0 10 (some P)) 0 11 (0 : Int32)).2.2 0 10 = some P := rfl
    have cell : ∀ b k, 133 < b → b < 146 → (uI (uR (uR (uI m1 1 1 (0 : Int32)) 0 9 (some Q)) 0 10 (some P)) 0 11 (0 : Int32)).1 b k = m1.1 b k := fun b k h1 h2 => (u_ne (by omega)).trans (u_ne (by omega))
    have j11 : (uI (uR (uR (uI m1 1 1 (0 : Int32)) 0 9 (some Q)) 0 10 (some P)) 0 11 (0 : Int32)).1 1 1 = 0 := rfl
    have j011 : (uI (uR (uR (uI m1 1 1 (0 : Int32)) 0 9 (some Q)) 0 10 (some P)) 0 11 (0 : Int32)).1 0 11 = 0 := rfl
    refine ⟨Q, n9, Pl_of hQ, ?_⟩
    generalize uI (uR (uR (uI m1 1 1 (0 : Int32)) 0 9 (some Q)) 0 10 (some P)) 0 11 (0 : Int32) = m4 at w3 f3 n9 n10 cell j11 j011 ⊢
    obtain ⟨c1, c2, c3, c4, c5, c6, c7, c8⟩ := C
    have hst : st ≠ 0 := fun z => by
      rw [z] at hk2
      have h3 : decide ((0 : Nat) = 4 ∨ (0 : Nat) = 5) = true := hk2
      exact absurd h3 (by decide)
    have hr13 : rd ≠ 13 := fun z => hst (V6 z)
    refine ⟨w3, f3, j11, fun q2 h2 => (by cases h2), fun st2 rd2 gm2 us2 fi2 se2 th2 sn2 h2 => ?_⟩
    cases h2
    refine ⟨by rw [cell Q 5 (by omega) (by omega), c2], ⟨n9, n10, by omega⟩, j011, ⟨V2, by omega, V5 hst, by omega⟩, (cell Q 7 (by omega) (by omega)).trans c1, (cell Q 5 (by omega) (by omega)).trans c2, (cell Q 6 (by omega) (by omega)).trans c3, (cell Q 8 (by omega) (by omega)).trans c4, fun j hj => (cell _ j (by omega) (by omega)).trans (c5 j hj), fun j hj => (cell _ j (by omega) (by omega)).trans (c6 j hj), fun j hj => (cell _ j (by omega) (by omega)).trans (c7 j hj), fun ρ h1 h2 => (cell _ ρ (by omega) (by omega)).trans (c8 ρ h1 h2)⟩
theorem e_planC0 {P Q n : Nat} (w : WT m) (hn : m.1 3 3 = nI n) (ht : m.1 1 1 = 0) (hR : PRF m P Q) : Ct ad μX11_plan (d + 4) [.ref (ad 0)] m (fun r m' => WT m' ∧ Fx (RS [0, 7, 44, 54]) m m' ∧ m'.1 1 1 = 0 ∧ r = some (.int 0) ∧ PRF m' Q P ∧ m'.1 0 11 = 0 ∧ m'.1 Q 5 = 0 ∧ m'.1 Q 6 = 0) := by
  obtain ⟨h9, h10, hPQ⟩ := hR
  have hP : P = 134 ∨ P = 140 := by omega
  have hQ : Q = 134 ∨ Q = 140 := by omega
  refine v_X11_plan (d := d + 3) ⟨Q, h10, Pl_of hQ, ?_⟩
  rw [hn]
  refine (e_compP0 (d := d) hQ w ht).to ?_
  rintro r m1 ⟨w1, f1, rfl, z5, z6⟩
  have w2 : WT (uI m1 1 1 (0 : Int32)) := w1.t rfl (by decide) (by decide)
  have f1' : Fx (RS [0, 7]) m m1 := (Fx.rf (S := RS [0, 7])).tr f1 (PR_7 hQ rfl)
  have f2 : Fx (RS [0, 7]) m (uI m1 1 1 (0 : Int32)) := f1'.i rfl
  have r9 : (uI m1 1 1 (0 : Int32)).2.2 0 9 = some P := (f1 0 9 (by unfold PR; omega)).2.2.trans h9
  have r10 : (uI m1 1 1 (0 : Int32)).2.2 0 10 = some Q := (f1 0 10 (by unfold PR; omega)).2.2.trans h10
  refine ⟨-1, rfl, fun _ => ⟨P, r9, Pl_of hP, Q, r10, Pl_of hQ, Q, rfl, Pl_of hQ, ?_⟩, fun z => absurd rfl z⟩
  have c5 : (uI (uR (uR (uI m1 1 1 (0 : Int32)) 0 9 (some Q)) 0 10 (some P)) 0 11 (0 : Int32)).1 Q 5 = 0 := (u_ne (by omega)).trans ((u_ne (by omega)).trans z5)
  have c6 : (uI (uR (uR (uI m1 1 1 (0 : Int32)) 0 9 (some Q)) 0 10 (some P)) 0 11 (0 : Int32)).1 Q 6 = 0 := (u_ne (by omega)).trans ((u_ne (by omega)).trans z6)
  exact ⟨((w2.rP (Or.inl rfl) hQ).rP (Or.inr rfl) hP).n rfl, (((Fx.rf (S := RS [0, 7, 44, 54])).tr f2 (RS_sub rfl)).r rfl |>.r rfl).i rfl, rfl, by rw [c5], ⟨rfl, rfl, by omega⟩, rfl, c5, c6⟩
end PCM
