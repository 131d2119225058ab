/-! WHAT IS KEPT: BOTH SIDES -/
/-- the cells from b to b + n -/
def BR (b n a _k : Nat) : Prop := b ≤ a ∧ a ≤ b + n
theorem BR_sub {b n b' n' : Nat} (h1 : b' ≤ b) (h2 : b + n ≤ b' + n') (a k : Nat) (h : BR b n a k) : BR b' n' a k := ⟨by have := h.1; omega, by have := h.2; omega⟩
theorem rg_13 {b : Nat} (k : Nat) (h1 : 173 ≤ b) (h2 : b < 187) : rg b k = 13 := by
  have h : b = 173 ∨ b = 174 ∨ b = 175 ∨ b = 176 ∨ b = 177 ∨ b = 178 ∨ b = 179 ∨ b = 180 ∨ b = 181 ∨ b = 182 ∨ b = 183 ∨ b = 184 ∨ b = 185 ∨ b = 186 := by omega
  rcases h with rfl | rfl | rfl | rfl | rfl | rfl | rfl | rfl | rfl | rfl | rfl | rfl | rfl | rfl <;> rfl
theorem KR_13 {i : Nat} (hi : i < 2) {S : List Nat} (hS : S.elem 13 = true) (a k : Nat) (h : BR (173 + 7 * i) 6 a k) : RS S a k := by
  unfold RS
  rw [rg_13 k (by have := h.1; omega) (by have := h.2; omega)]
  exact hS
theorem Ke_i {i : Nat} (hi : i < 2) : Ke (173 + 7 * i) := Ke_of (by omega)
theorem SS_i {i : Nat} (hi : i < 2) : SS (173 + 7 * i + 1) 13 := by
  have h : i = 0 ∨ i = 1 := by omega
  rcases h with rfl | rfl
  · exact SS_174
  · exact SS_181
section KPC
variable {ad : Nat → Nat} {d : Nat} {m : Wm}
theorem e_copyF {b0 b1 ρ0 ρ1 : Nat} (w : WT m) (hb0 : SS b0 ρ0) (hb1 : SS b1 ρ1) (hd : b1 + 4 < b0 ∨ b0 + 4 < b1) : Ct ad μX8_copy (d + 1) [.ref (ad b0), .ref (ad b1)] m (fun r m' => WT m' ∧ Fx (BR b0 4) m m' ∧ r = none ∧ (∀ k, k < 32 → m'.1 (b0 + 1) k = m.1 (b1 + 1) k) ∧ (∀ j k, 2 ≤ j → j ≤ 4 → k < 8 → m'.1 (b0 + j) k = m.1 (b1 + j) k) ∧ m'.1 b0 4 = m.1 b1 4) := by
  have h := hb0.2
  refine v_X8_copy hb0.1 hb1.1 ⟨by decide, by decide, by decide, by decide, by decide, by decide, by decide, by decide, by decide, by decide, by decide, by decide, by decide, by decide, by decide, by decide, by decide, by decide, by decide, by decide, ?_⟩
  refine ⟨((((w.c (fun k => (h 1 k (by decide)).2)).c (fun k => (h 2 k (by decide)).2)).c (fun k => (h 3 k (by decide)).2)).c (fun k => (h 4 k (by decide)).2)).s0 h, ((((Fx.rf.c (fun k => ⟨by omega, by omega⟩)).c (fun k => ⟨by omega, by omega⟩)).c (fun k => ⟨by omega, by omega⟩)).c (fun k => ⟨by omega, by omega⟩)).i ⟨by omega, by omega⟩, rfl, fun k hk => ?_, fun j k h2 h4 hk => ?_, ?_⟩
  · exact (u_ne (by omega)).trans ((c_ne (by omega)).trans ((c_ne (by omega)).trans ((c_ne (by omega)).trans (c_at rfl rfl hk))))
  · have hj : j = 2 ∨ j = 3 ∨ j = 4 := by omega
    rcases hj with rfl | rfl | rfl
    · exact (u_ne (by omega)).trans ((c_ne (by omega)).trans ((c_ne (by omega)).trans ((c_at rfl rfl hk).trans (c_ne (by omega)))))
    · exact (u_ne (by omega)).trans ((c_ne (by omega)).trans ((c_at rfl rfl hk).trans ((c_ne (by omega)).trans (c_ne (by omega)))))
    · exact (u_ne (by omega)).trans ((c_at rfl rfl hk).trans ((c_ne (by omega)).trans ((c_ne (by omega)).trans (c_ne (by omega)))))
  · exact u_eq.trans ((c_ne (by omega)).trans ((c_ne (by omega)).trans ((c_ne (by omega)).trans (c_ne (by omega)))))
/-- a number 0 or 1 -/
theorem two_of {x : Int32} (h0 : 0 ≤ x.toInt) (h2 : x.toInt < 2) : ∃ i : Nat, i < 2 ∧ x = nI i := by
  obtain ⟨j, hj, rfl⟩ := zn_of h0
  rw [nI_toInt hj] at h2
  exact ⟨j, by omega, rfl⟩
def kpC (m : Wm) (i : Nat) (m' : Wm) : Prop := WT m' ∧ Fx (BR (173 + 7 * i) 6) m m' ∧ (∀ k, k < 32 → m'.1 (173 + 7 * i + 2) k = m.1 22 k) ∧ (∀ j k, 2 ≤ j → j ≤ 4 → k < 8 → m'.1 (173 + 7 * i + 1 + j) k = m.1 (21 + j) k) ∧ m'.1 (173 + 7 * i + 1) 4 = m.1 21 4 ∧ m'.1 (173 + 7 * i) 2 = m.1 3 5 ∧ (∀ k, k < 5 → m'.1 (173 + 7 * i + 6) k = m.1 4 k) ∧ m'.1 (173 + 7 * i) 3 = m.1 0 11 ∧ m'.1 (173 + 7 * i) 4 = 1
theorem wK {i : Nat} (hi : i < 2) {m : Wm} (w : WT m) {k : Nat} {v : Int32} : WT (uI m (173 + 7 * i) k v) := by
  have h : i = 0 ∨ i = 1 := by omega
  rcases h with rfl | rfl
  · exact w.n rfl
  · exact w.n rfl
theorem wKc {i : Nat} (hi : i < 2) {m : Wm} (w : WT m) {a0 s e n : Nat} : WT (uC m a0 (173 + 7 * i + 6) s e n) := by
  have h : i = 0 ∨ i = 1 := by omega
  rcases h with rfl | rfl
  · exact w.c (fun _ => rfl)
  · exact w.c (fun _ => rfl)
theorem e_keepC {x : Int32} (w : WT m) : Ct ad μX11_keep (d + 3) [.ref (ad 0), .int x] m (fun r m' => (∃ i, i < 2 ∧ x = nI i ∧ r = some (.int 1) ∧ kpC m i m') ∨ (¬ (0 ≤ x.toInt ∧ x.toInt < 2) ∧ r = some (.int 0) ∧ m' = m)) := by
  refine v_X11_keep (d := d + 2) ⟨fun c => Or.inr ⟨?_, rfl, rfl⟩, fun c => ⟨fun c2 => ?_, fun c2 => Or.inr ⟨?_, rfl, rfl⟩⟩⟩
  · have := y_ltr (n := 0) rfl c; omega
  · have h0 := y_nltr (n := 0) rfl c
    have h2 := y_ltr (n := 2) rfl c2
    obtain ⟨i, hi, rfl⟩ := two_of h0 h2
    rw [nI_clamp (by omega)]
    refine ⟨nat_in hi (by decide), 173 + 7 * i, w.keepx hi, Ke_i hi, v_X0_store (d := d + 1) (Ke_i hi) St_21 ((e_copyF (d := d) w (SS_i hi) SS_21 (by omega)).to ?_)⟩
    rintro _ m1 ⟨w1, f1, rfl, k1, k2, k3⟩
    have f1' : Fx (BR (173 + 7 * i) 6) m m1 := (Fx.rf (S := BR (173 + 7 * i) 6)).tr f1 (BR_sub (by omega) (by omega))
    refine ⟨rfl, by decide, by decide, by decide, by decide, by decide, rfl, Or.inl ⟨i, hi, rfl, rfl, wK hi (wK hi (wKc hi (wK hi w1))), (((f1'.i ⟨by omega, by omega⟩).c (fun k => ⟨by omega, by omega⟩)).i ⟨by omega, by omega⟩).i ⟨by omega, by omega⟩, fun k hk => ?_, fun j k a1 a2 hk => ?_, ?_, ?_, fun k hk => ?_, ?_, u_eq⟩⟩
    · exact (u_ne (by omega)).trans ((u_ne (by omega)).trans ((c_ne (by omega)).trans ((u_ne (by omega)).trans (k1 k hk))))
    · exact (u_ne (by omega)).trans ((u_ne (by omega)).trans ((c_ne (by omega)).trans ((u_ne (by omega)).trans (k2 j k a1 a2 hk))))
    · exact (u_ne (by omega)).trans ((u_ne (by omega)).trans ((c_ne (by omega)).trans ((u_ne (by omega)).trans k3)))
    · refine (u_ne (by omega)).trans ((u_ne (by omega)).trans ((c_ne (by omega)).trans (u_eq.trans ?_)))
      exact f1.at (by unfold BR; omega)
    · refine (u_ne (by omega)).trans ((u_ne (by omega)).trans ((c_at rfl rfl hk).trans ((u_ne (by omega)).trans ?_)))
      exact f1.at (by unfold BR; omega)
    · exact (u_ne (by omega)).trans u_eq
  · have := y_nltr (n := 2) rfl c2; omega
def agC (m : Wm) (i P : Nat) (m' : Wm) : Prop := WT m' ∧ Fx (RS [4, 42, 43, 44, 53]) m m' ∧ (∀ k, k < 32 → m'.1 22 k = m.1 (173 + 7 * i + 2) k) ∧ (∀ j k, 2 ≤ j → j ≤ 4 → k < 8 → m'.1 (21 + j) k = m.1 (173 + 7 * i + 1 + j) k) ∧ m'.1 21 4 = m.1 (173 + 7 * i + 1) 4 ∧ m'.1 3 5 = m.1 (173 + 7 * i) 2 ∧ (∀ k, k < 5 → m'.1 4 k = m.1 (173 + 7 * i + 6) k) ∧ m'.1 31 1 = 0 ∧
  m'.1 0 11 = if (m.1 P 5).toInt = 0 then 0 else m.1 (173 + 7 * i) 3 - m.1 (173 + 7 * i) 3 / m.1 P 5 * m.1 P 5
theorem e_againC {x : Int32} {P : Nat} (w : WT m) (hP : m.2.2 0 9 = some P) : Ct ad μX11_again (d + 3) [.ref (ad 0), .int x] m (fun r m' => (∃ i, i < 2 ∧ x = nI i ∧ m.1 (173 + 7 * i) 4 ≠ 0 ∧ r = some (.int 1) ∧ agC m i P m') ∨ ((∀ i, i < 2 → x = nI i → m.1 (173 + 7 * i) 4 = 0) ∧ r = some (.int 0) ∧ m' = m)) := by
  have hPP : P = 134 ∨ P = 140 := by
    obtain ⟨r, h1, h2⟩ := w.r09
    rw [hP] at h1
    cases h1
    exact h2
  refine v_X11_again (d := d + 2) ⟨fun c => Or.inr ⟨fun i hi hx => ?_, rfl, rfl⟩, fun c => ⟨fun c2 => Or.inr ⟨fun i hi hx => ?_, rfl, rfl⟩, fun c2 => ?_⟩⟩
  · have := y_ltr (n := 0) rfl c
    rw [hx, nI_toInt (by omega)] at this
    omega
  · have := y_lel (n := 2) rfl c2
    rw [hx, nI_toInt (by omega)] at this
    omega
  · have h0 := y_nltr (n := 0) rfl c
    have h2 := y_nlel (n := 2) rfl c2
    obtain ⟨i, hi, rfl⟩ := two_of h0 h2
    rw [nI_clamp (by omega)]
    refine ⟨nat_in hi (by decide), 173 + 7 * i, w.keepx hi, Ke_i hi, fun ht => ?_, fun ht => Or.inr ⟨fun i' hi' hx => ?_, rfl, rfl⟩⟩
    · refine ⟨nat_in hi (by decide), 173 + 7 * i, w.keepx hi, Ke_i hi, v_X0_restore (d := d + 1) (Ke_i hi) St_21 ((e_copyF (d := d) w SS_21 (SS_i hi) (by omega)).to ?_)⟩
      rintro _ m1 ⟨w1, f1, rfl, k1, k2, k3⟩
      refine ⟨rfl, by decide, by decide, by decide, by decide, by decide, rfl, ?_⟩
      have f1' : Fx (RS [4, 42, 43, 44, 53]) m m1 := (Fx.rf (S := RS [4, 42, 43, 44, 53])).tr f1 (fun a k h => by
        have : a = 21 ∨ a = 22 ∨ a = 23 ∨ a = 24 ∨ a = 25 := by have := h.1; have := h.2; omega
        rcases this with rfl | rfl | rfl | rfl | rfl <;> rfl)
      have w2 : WT (uC (uI m1 3 5 (m1.1 (173 + 7 * i) 2)) (173 + 7 * i + 6) 4 (0 : Int32).toNatClampNeg (0 : Int32).toNatClampNeg (5 : Int32).toNatClampNeg) := (w1.n rfl).c (fun _ => rfl)
      have f2 : Fx (RS [4, 42, 43, 44, 53]) m (uC (uI m1 3 5 (m1.1 (173 + 7 * i) 2)) (173 + 7 * i + 6) 4 (0 : Int32).toNatClampNeg (0 : Int32).toNatClampNeg (5 : Int32).toNatClampNeg) := (f1'.i rfl).c (fun _ => rfl)
      have j22 : ∀ k, k < 32 → (uC (uI m1 3 5 (m1.1 (173 + 7 * i) 2)) (173 + 7 * i + 6) 4 (0 : Int32).toNatClampNeg (0 : Int32).toNatClampNeg (5 : Int32).toNatClampNeg).1 22 k = m.1 (173 + 7 * i + 2) k := fun k hk => (c_ne (by omega)).trans ((u_ne (by omega)).trans (k1 k hk))
      have j23 : ∀ j k, 2 ≤ j → j ≤ 4 → k < 8 → (uC (uI m1 3 5 (m1.1 (173 + 7 * i) 2)) (173 + 7 * i + 6) 4 (0 : Int32).toNatClampNeg (0 : Int32).toNatClampNeg (5 : Int32).toNatClampNeg).1 (21 + j) k = m.1 (173 + 7 * i + 1 + j) k := fun j k a1 a2 hk => (c_ne (by omega)).trans ((u_ne (by omega)).trans (k2 j k a1 a2 hk))
      have j21 : (uC (uI m1 3 5 (m1.1 (173 + 7 * i) 2)) (173 + 7 * i + 6) 4 (0 : Int32).toNatClampNeg (0 : Int32).toNatClampNeg (5 : Int32).toNatClampNeg).1 21 4 = m.1 (173 + 7 * i + 1) 4 := (c_ne (by omega)).trans ((u_ne (by omega)).trans k3)
      have j35 : (uC (uI m1 3 5 (m1.1 (173 + 7 * i) 2)) (173 + 7 * i + 6) 4 (0 : Int32).toNatClampNeg (0 : Int32).toNatClampNeg (5 : Int32).toNatClampNeg).1 3 5 = m.1 (173 + 7 * i) 2 := (c_ne (by omega)).trans (u_eq.trans (f1.at (by unfold BR; omega)))
      have j4 : ∀ k, k < 5 → (uC (uI m1 3 5 (m1.1 (173 + 7 * i) 2)) (173 + 7 * i + 6) 4 (0 : Int32).toNatClampNeg (0 : Int32).toNatClampNeg (5 : Int32).toNatClampNeg).1 4 k = m.1 (173 + 7 * i + 6) k := fun k hk => (c_at rfl rfl hk).trans ((u_ne (by omega)).trans (f1.at (by unfold BR; omega)))
      have jr : (uC (uI m1 3 5 (m1.1 (173 + 7 * i) 2)) (173 + 7 * i + 6) 4 (0 : Int32).toNatClampNeg (0 : Int32).toNatClampNeg (5 : Int32).toNatClampNeg).2.2 0 9 = some P := (f1 0 9 (by unfold BR; omega)).2.2.trans hP
      have jP : (uC (uI m1 3 5 (m1.1 (173 + 7 * i) 2)) (173 + 7 * i + 6) 4 (0 : Int32).toNatClampNeg (0 : Int32).toNatClampNeg (5 : Int32).toNatClampNeg).1 P 5 = m.1 P 5 := (c_ne (by omega)).trans ((u_ne (by omega)).trans (f1.at (by unfold BR; omega)))
      have jK : (uC (uI m1 3 5 (m1.1 (173 + 7 * i) 2)) (173 + 7 * i + 6) 4 (0 : Int32).toNatClampNeg (0 : Int32).toNatClampNeg (5 : Int32).toNatClampNeg).1 (173 + 7 * i) 3 = m.1 (173 + 7 * i) 3 := (c_ne (by omega)).trans ((u_ne (by omega)).trans (f1.at (by unfold BR; omega)))
      generalize uC (uI m1 3 5 (m1.1 (173 + 7 * i) 2)) (173 + 7 * i + 6) 4 (0 : Int32).toNatClampNeg (0 : Int32).toNatClampNeg (5 : Int32).toNatClampNeg = m3 at w2 f2 j22 j23 j21 j35 j4 jr jP jK ⊢
      have tP := w2.pl (r := P) (k := 5) hPP rfl rfl
      rw [jP] at tP
      have fin : ∀ s0, s0 = (if (m.1 P 5).toInt = 0 then 0 else m.1 (173 + 7 * i) 3 - m.1 (173 + 7 * i) 3 / m.1 P 5 * m.1 P 5) → AW ad E0 μX11_again (d + 3) (fun r m' => (∃ i', i' < 2 ∧ nI i = nI i' ∧ m.1 (173 + 7 * i') 4 ≠ 0 ∧ r = some (.int 1) ∧ agC m i' P m') ∨ ((∀ i', i' < 2 → nI i = nI i' → m.1 (173 + 7 * i') 4 = 0) ∧ r = some (.int 0) ∧ m' = m)) 76 [(0, .ref (ad 0))] [.int s0, .ref (ad 0)] m3 := fun s0 hs0 =>
        g_X11_again_76 (Or.inl ⟨i, hi, rfl, ht, rfl, (w2.n rfl).t rfl (by decide) (by decide), (f2.i rfl).i rfl, j22, fun j k a1 a2 hk => (u_ne (by omega)).trans ((u_ne (by omega)).trans (j23 j k a1 a2 hk)), j21, j35, j4, rfl, hs0⟩)
      refine ⟨P, jr, Pl_of hPP, ?_⟩
      rw [jP]
      refine ⟨fun c0 => fin 0 ?_, fun c0 => ⟨nat_in hi (by decide), 173 + 7 * i, w2.keepx hi, Ke_i hi, P, jr, Pl_of hPP, ?_⟩⟩
      · have := y_ler (n := 0) rfl c0
        rw [if_pos (by omega)]
      · have c0' := y_nler (n := 0) rfl c0
        rw [jP, jK]
        exact ⟨fun z => by rw [z] at c0'; exact absurd c0' (by decide), fin _ (by rw [if_neg (by omega)])⟩
    · have : i' = i := by
        have := (nI_eq (a := i) (b := i') (by omega) (by omega)).mp hx
        omega
      rw [this]; exact ht
end KPC
