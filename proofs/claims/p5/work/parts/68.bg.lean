/-! WHAT CAN BE UNDONE -/
def gAt : List GS → Nat → GS
  | [], _ => ((fun _ => 0), (fun _ => 0), (fun _ => 0), (fun _ => 0), 0)
  | g :: _, 0 => g
  | _ :: r, k + 1 => gAt r k
/-- row a holds g from x on -/
def HL (n a x : Nat) (m : Wm) (g : GS) : Prop := n ≤ 8 ∧ (∀ k, k < 4 * n → m.1 a (x + k) = g.1 k) ∧ (∀ k, k < n → m.1 a (x + 32 + 3 * k) = g.2.1 k) ∧ (∀ k, k < n → m.1 a (x + 32 + 3 * k + 1) = g.2.2.1 k) ∧ (∀ k, k < n → m.1 a (x + 32 + 3 * k + 2) = g.2.2.2.1 k) ∧ m.1 a (x + 56) = g.2.2.2.2
def UnC (m : Wm) (H : List GS) : Prop := H.length ≤ 20 ∧ m.1 31 1 = nI H.length ∧ ∃ p, p < 20 ∧ m.1 31 2 = nI p ∧ ∀ j, j < H.length → HC (33 + 5 * ((p + 20 - j) % 20)) m (gAt H j)
def UnM (n : Nat) (m : Wm) (H : List GS) : Prop := m.1 187 30 = nI H.length ∧ ∀ j, j < H.length → HL n 201 (57 * (H.length - 1 - j)) m (gAt H j)
section UND
variable {ad : Nat → Nat} {d : Nat} {m m' m0 : Wm} {g : GS} {v : EV} {S : List Nat} {H : List GS}
theorem HL.k {n a x : Nat} (h : HL n a x m g) (e : ∀ k, x ≤ k → k < x + 57 → m'.1 a k = m.1 a k) : HL n a x m' g := by
  obtain ⟨h0, h1, h2, h3, h4, h5⟩ := h
  exact ⟨h0, fun k hk => (e _ (by omega) (by omega)).trans (h1 k hk), fun k hk => (e _ (by omega) (by omega)).trans (h2 k hk), fun k hk => (e _ (by omega) (by omega)).trans (h3 k hk), fun k hk => (e _ (by omega) (by omega)).trans (h4 k hk), (e _ (by omega) (by omega)).trans h5⟩
theorem HL.mv {n a x y : Nat} (h : HL n a x m g) (e : ∀ k, k < 57 → m'.1 a (y + k) = m.1 a (x + k)) : HL n a y m' g := by
  obtain ⟨h0, h1, h2, h3, h4, h5⟩ := h
  have e2 : ∀ k r, k < 8 → r < 3 → m'.1 a (y + 32 + 3 * k + r) = m.1 a (x + 32 + 3 * k + r) := fun k r hk hr => by
    have := e (32 + 3 * k + r) (by omega)
    rw [show y + (32 + 3 * k + r) = y + 32 + 3 * k + r by omega, show x + (32 + 3 * k + r) = x + 32 + 3 * k + r by omega] at this
    exact this
  exact ⟨h0, fun k hk => (e k (by omega)).trans (h1 k hk), fun k hk => (e2 k 0 (by omega) (by decide)).trans (h2 k hk), fun k hk => (e2 k 1 (by omega) (by decide)).trans (h3 k hk), fun k hk => (e2 k 2 (by omega) (by decide)).trans (h4 k hk), (e 56 (by decide)).trans h5⟩
theorem HL.fx {n a x ρ : Nat} (h : HL n a x m g) (f : Fx (RS S) m m') (hr : ∀ k, rg a k = ρ) (e : S.elem ρ = false) : HL n a x m' g := h.k (fun k _ _ => f.at (nRS e (hr k)))
theorem SS_ring {k : Nat} (w : WT m) (hk : k < 20) : SS (33 + 5 * k) 6 := by
  obtain ⟨r, e, h⟩ := w.ring (x := nI k) (by rw [nI_toInt (by omega)]; omega) (by rw [nI_toInt (by omega)]; omega)
  rw [nI_clamp (by omega), w.ringx hk] at e
  rw [Option.some.inj e]
  exact h
theorem SS_rk {k : Nat} (hk : k < 20) : SS (33 + 5 * k) 6 := by
  have h : k = 0 ∨ k = 1 ∨ k = 2 ∨ k = 3 ∨ k = 4 ∨ k = 5 ∨ k = 6 ∨ k = 7 ∨ k = 8 ∨ k = 9 ∨ k = 10 ∨ k = 11 ∨ k = 12 ∨ k = 13 ∨ k = 14 ∨ k = 15 ∨ k = 16 ∨ k = 17 ∨ k = 18 ∨ k = 19 := by omega
  rcases h with rfl | rfl | rfl | rfl | rfl | rfl | rfl | rfl | rfl | rfl | rfl | rfl | rfl | rfl | rfl | rfl | rfl | rfl | rfl | rfl
  all_goals
    refine ⟨⟨rfl, rfl, rfl, rfl, rfl⟩, fun j k' hj => ?_⟩
    have h : j = 0 ∨ j = 1 ∨ j = 2 ∨ j = 3 ∨ j = 4 := by omega
    rcases h with rfl | rfl | rfl | rfl | rfl
    all_goals exact ⟨rfl, rfl⟩
theorem UnC.fx (h : UnC m H) (f : Fx (RS S) m m') (e1 : S.elem 6 = false) (e2 : S.elem 53 = false) : UnC m' H := by
  obtain ⟨h1, h2, p, hp, h3, h4⟩ := h
  exact ⟨h1, (f.at (nRS (ρ := 53) e2 rfl)).trans h2, p, hp, (f.at (nRS (ρ := 53) e2 rfl)).trans h3, fun j hj => (h4 j hj).fx (SS_rk (by omega)) f e1⟩
theorem UnM.fx {n : Nat} (h : UnM n m H) (f : Fx (RS S) m m') (e1 : S.elem 29 = false) : UnM n m' H := ⟨(f.at (nRS (ρ := 29) e1 rfl)).trans h.1, fun j hj => (h.2 j hj).fx f (fun _ => rfl) e1⟩
theorem HC.br {b0 b n : Nat} (h : HC b m g) (f : Fx (BR b0 n) m m') (hd : b + 4 < b0 ∨ b0 + n < b) : HC b m' g := by
  obtain ⟨h1, h2, h3, h4, h5⟩ := h
  have r : ∀ j k, j ≤ 4 → m'.1 (b + j) k = m.1 (b + j) k := fun j k hj => f.at (by unfold BR; omega)
  exact ⟨fun k hk => (r 1 k (by decide)).trans (h1 k hk), fun k hk => (r 2 k (by decide)).trans (h2 k hk), fun k hk => (r 3 k (by decide)).trans (h3 k hk), fun k hk => (r 4 k (by decide)).trans (h4 k hk), (r 0 4 (by decide)).trans h5⟩
theorem gAt_take : ∀ (H : List GS) (n j : Nat), j < n → gAt (H.take n) j = gAt H j := by
  intro H
  induction H with
  | nil => intro n j _; rw [List.take_nil]
  | cons x H ih =>
    intro n j h
    cases n with
    | zero => omega
    | succ n =>
      cases j with
      | zero => rfl
      | succ j => exact ih n j (by omega)
set_option maxHeartbeats 1000000 in
theorem saveC (w : WT m) (h : HC 21 m g) (U : UnC m H) : Ct ad μX2_save (d + 2) [.ref (ad 31), .ref (ad 21)] m (fun r m' => r = none ∧ WT m' ∧ Fx (RS [6, 53]) m m' ∧ UnC m' ((g :: H).take 20)) := by
  obtain ⟨h1, h2, p, hp, h3, h4⟩ := U
  have go : ∀ q : Nat, q < 20 → q = (p + 1) % 20 → AW ad E0 μX2_save (d + 1 + 1) (fun r m' => r = none ∧ WT m' ∧ Fx (RS [6, 53]) m m' ∧ UnC m' ((g :: H).take 20)) 22 [(0, .ref (ad 31)), (1, .ref (ad 21))] [.int (nI q), .ref (ad 31)] m := by
    intro q hq hqp
    refine g_X2_save_22 SS_21.1 ?_
    have e2 : (uI m 31 2 (nI q)).1 31 2 = nI q := u_eq
    rw [e2, nI_clamp (by omega)]
    have w1 : WT (uI m 31 2 (nI q)) := w.t rfl (by rw [nI_toInt (by omega)]; omega) (by rw [nI_toInt (by omega)]; omega)
    have f1 : Fx (RS [6, 53]) m (uI m 31 2 (nI q)) := Fx.rf.i rfl
    have hS := SS_ring w hq
    have H1 : HC 21 (uI m 31 2 (nI q)) g := h.o (by omega)
    refine ⟨nat_in hq (by decide), 33 + 5 * q, w.ringx hq, hS.1, (e_copyF (d := d) w1 hS SS_21 (Or.inl (by omega))).to ?_⟩
    rintro _ m2 ⟨w2, f2, rfl, k1, k2, k3⟩
    have f2' : Fx (RS [6]) (uI m 31 2 (nI q)) m2 := Fx.tr Fx.rf f2 (fun a k hk => by
      unfold BR at hk
      unfold RS
      have hj := (hS.2 (a - (33 + 5 * q)) k (by omega)).1
      rw [show 33 + 5 * q + (a - (33 + 5 * q)) = a by omega] at hj
      rw [hj]
      rfl)
    have e31 : m2.1 31 1 = nI H.length := (f2.at (by unfold BR; omega)).trans ((u_ne (by omega)).trans h2)
    have e32 : m2.1 31 2 = nI q := (f2.at (by unfold BR; omega)).trans e2
    have HN : HC (33 + 5 * q) m2 g := ⟨fun k hk => (k1 k hk).trans (H1.1 k hk), fun k hk => (k2 2 k (by decide) (by decide) hk).trans (H1.2.1 k hk), fun k hk => (k2 3 k (by decide) (by decide) hk).trans (H1.2.2.1 k hk), fun k hk => (k2 4 k (by decide) (by decide) hk).trans (H1.2.2.2.1 k hk), k3.trans H1.2.2.2.2⟩
    have el : ((g :: H).take 20).length = if 20 < H.length + 1 then 20 else H.length + 1 := by
      rw [List.length_take, List.length_cons]
      split <;> omega
    have ev : (if (20 : Int32) < m2.1 31 1 + (1 : Int32) then (20 : Int32) else m2.1 31 1 + (1 : Int32)) = nI ((g :: H).take 20).length := by
      rw [e31, nI_1, el]
      by_cases c : 20 < H.length + 1
      · rw [if_pos c, if_pos ((lt_l 20 20 rfl (by decide) (by omega)).mpr c)]; rfl
      · rw [if_neg c, if_neg (fun z => c ((lt_l 20 20 rfl (by decide) (by omega)).mp z))]
    have l20 : ((g :: H).take 20).length ≤ 20 := by rw [el]; split <;> omega
    rw [ev]
    have tl : (nI ((g :: H).take 20).length).toInt = ((g :: H).take 20).length := nI_toInt (by omega)
    refine ⟨rfl, rfl, w2.t rfl (by omega) (by omega), (f1.tr f2' (RS_sub rfl)).i rfl, l20, u_eq, q, hq, (u_ne (by omega)).trans e32, fun j hj => ?_⟩
    rw [gAt_take _ _ _ (by omega)]
    cases j with
    | zero =>
      rw [show (q + 20 - 0) % 20 = q by omega]
      exact HN.o (by omega)
    | succ j =>
      have hjl : j < H.length := by rw [el] at hj; split at hj <;> omega
      have h5 := h4 j hjl
      have es : (q + 20 - (j + 1)) % 20 = (p + 20 - j) % 20 := by omega
      rw [es]
      exact (((h5.o (by omega)).br f2 (by omega)).o (by omega))
  refine v_X2_save SS_21.1 ?_
  rw [h3, nI_1]
  refine ⟨fun c => ?_, fun c => ?_⟩
  · have := (le_l 20 20 rfl (by decide) (by omega)).mp c
    exact go 0 (by decide) (by omega)
  · have : ¬ 20 ≤ p + 1 := fun z => c ((le_l 20 20 rfl (by decide) (by omega)).mpr z)
    exact go (p + 1) (by omega) (by omega)
theorem backC (w : WT m) (U : UnC m H) : Ct ad μX2_takeBack (d + 2) [.ref (ad 31), .ref (ad 21)] m (fun r m' => WT m' ∧ Fx (RS [4, 53]) m m' ∧ ((H = [] ∧ r = some (.int 0) ∧ m' = m) ∨ ∃ g H', H = g :: H' ∧ r = some (.int 1) ∧ HC 21 m' g ∧ UnC m' H')) := by
  obtain ⟨h1, h2, p, hp, h3, h4⟩ := U
  cases H with
  | nil =>
    refine v_X2_takeBack SS_21.1 ⟨fun c => absurd h2 c, fun _ => ⟨w, Fx.rf, Or.inl ⟨rfl, rfl, rfl⟩⟩⟩
  | cons g H' =>
    rw [List.length_cons] at h1 h2 h4
    have hS := SS_ring w hp
    refine v_X2_takeBack SS_21.1 ⟨fun _ => ?_, fun c => ?_⟩
    · rw [h3, nI_clamp (by omega)]
      have H0 : HC (33 + 5 * p) m g := by
        have := h4 0 (by omega)
        rw [show (p + 20 - 0) % 20 = p by omega] at this
        exact this
      refine ⟨nat_in hp (by decide), 33 + 5 * p, w.ringx hp, hS.1, (copyC (d := d) w SS_21 hS (Or.inr (by omega)) H0).to ?_⟩
      rintro _ m2 ⟨rfl, w2, f2, H2⟩
      have e32 : m2.1 31 2 = nI p := (f2.at (nRS (ρ := 53) rfl rfl)).trans h3
      have e31 : m2.1 31 1 = nI (H'.length + 1) := (f2.at (nRS (ρ := 53) rfl rfl)).trans h2
      have fin : ∀ q : Nat, q < 20 → q = (p + 19) % 20 → AW ad E0 μX2_takeBack (d + 1 + 1) (fun r m' => WT m' ∧ Fx (RS [4, 53]) m m' ∧ ((g :: H' = [] ∧ r = some (.int 0) ∧ m' = m) ∨ ∃ g1 H1, g :: H' = g1 :: H1 ∧ r = some (.int 1) ∧ HC 21 m' g1 ∧ UnC m' H1)) 41 [(0, .ref (ad 31))] [.int (nI q), .ref (ad 31)] m2 := by
        intro q hq hqp
        refine g_X2_takeBack_41 ?_
        have e1 : (uI m2 31 2 (nI q)).1 31 1 = nI (H'.length + 1) := (u_ne (by omega)).trans e31
        have eb : nI (H'.length + 1) - (1 : Int32) = nI H'.length := nI_sb (a := H'.length + 1) (b := 1) (by omega) (by omega)
        rw [e1, eb]
        have tq : (nI q).toInt = q := nI_toInt (by omega)
        have tl : (nI H'.length).toInt = H'.length := nI_toInt (by omega)
        refine ⟨(w2.t rfl (by omega) (by omega)).t rfl (by omega) (by omega), ((Fx.tr (S := RS [4, 53]) Fx.rf f2 (RS_sub rfl)).i rfl).i rfl, Or.inr ⟨g, H', rfl, rfl, (H2.o (by omega)).o (by omega), by omega, u_eq, q, hq, (u_ne (by omega)).trans u_eq, fun j hj => ?_⟩⟩
        have h5 := h4 (j + 1) (by omega)
        have es : (q + 20 - j) % 20 = (p + 20 - (j + 1)) % 20 := by omega
        rw [es]
        exact (((h5.fx (SS_ring w (by omega)) f2 rfl).o (by omega)).o (by omega))
      refine ⟨rfl, fun c => ?_, fun c => ?_⟩
      · rw [e32] at c
        have := (l_le 0 0 rfl (by decide) (by omega)).mp c
        exact fin 19 (by decide) (by omega)
      · rw [e32] at c
        have hp0 : ¬ p ≤ 0 := fun z => c ((l_le 0 0 rfl (by decide) (by omega)).mpr z)
        have eb : nI p - (1 : Int32) = nI (p - 1) := nI_sb (a := p) (b := 1) (by omega) (by omega)
        rw [e32, eb]
        exact fin (p - 1) (by omega) (by omega)
    · rw [h2] at c
      have := (nI_eq (a := H'.length + 1) (b := 0) (by omega) (by omega)).mp c
      omega
end UND
