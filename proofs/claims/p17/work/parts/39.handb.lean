/-! THE MODEL BY HAND: texts that are read, exactly -/
theorem flt_2 {p : Nat} {w : Int32} (h : (fltF (nI p) (p, w)).2 = -1) (hp : p < 2147483648) : False := by
  unfold fltF at h
  by_cases hw : w = -1
  · rw [if_pos hw] at h
    exact m1_ne p hp h.symm
  · rw [if_neg hw] at h
    exact hw h
theorem flt_no {x : Int32} {s : Sp} (hx : x ≠ -1) : (fltF x s).2 ≠ -1 := by
  unfold fltF
  by_cases hw : s.2 = -1
  · rw [if_pos hw]; exact hx
  · rw [if_neg hw]; exact hw
theorem flt_keep {x : Int32} {s : Sp} (h : s.2 ≠ -1) : fltF x s = s := if_neg h
/-- a side's digit that is there and not in 'used' -/
def sdF (tx : Nat → Int32) (e : Nat) (n : Nat) (used : Int32) (s : Sp) : Int32 × Sp :=
  let q := digF tx e 0 9 s
  if q.2.2 = -1 then (if (0 ≤ q.1 ∧ q.1 ≤ nI n - 1) ∧ ¬ ((used >>> (q.1 &&& 31)) &&& 1) = 1 then q else (q.1, fltF (nI q.2.1 - 1) q.2)) else q
theorem dig_1 {tx : Nat → Int32} {e : Nat} {lo hi : Int32} {s : Sp} : s.1 ≤ (digF tx e lo hi s).2.1 := by
  unfold digF
  by_cases hw : s.2 = -1
  · rw [if_pos hw]
    by_cases hc : 48 + lo ≤ hrF tx e s.1 ∧ hrF tx e s.1 ≤ 48 + hi
    · rw [if_pos hc]; exact Nat.le_succ _
    · rw [if_neg hc, flt_1]; exact Nat.le_refl _
  · rw [if_neg hw]; exact Nat.le_refl _
theorem dig_2 {tx : Nat → Int32} {e : Nat} {lo hi : Int32} {s : Sp} (hs : s.1 < 2147483648) (h : (digF tx e lo hi s).2.2 = -1) : s.2 = -1 ∧ digF tx e lo hi s = (hrF tx e s.1 - 48, (s.1 + 1, s.2)) ∧ 48 + lo ≤ hrF tx e s.1 ∧ hrF tx e s.1 ≤ 48 + hi := by
  unfold digF at h ⊢
  by_cases hw : s.2 = -1
  · rw [if_pos hw] at h ⊢
    by_cases hc : 48 + lo ≤ hrF tx e s.1 ∧ hrF tx e s.1 ≤ 48 + hi
    · rw [if_pos hc]
      exact ⟨hw, rfl, hc⟩
    · rw [if_neg hc] at h
      exact (flt_2 (p := s.1) (w := s.2) h hs).elim
  · rw [if_neg hw] at h
    exact absurd h hw
theorem dig_v {lo hi x : Int32} {l u : Nat} (hl : lo = nI l) (hu : hi = nI u) (hl9 : l ≤ 9) (hu9 : u ≤ 9) (h1 : 48 + lo ≤ x) (h2 : x ≤ 48 + hi) : (l : Int) ≤ (x - 48).toInt ∧ (x - 48).toInt ≤ u := by
  subst hl hu
  have a1 := z_le h1
  have a2 := z_le h2
  have z48 : (48 : Int32).toInt = 48 := rfl
  have e1 : (nI l).toInt = l := nI_toInt (by omega)
  have e2 : (nI u).toInt = u := nI_toInt (by omega)
  have b1 := ti_add (x := 48) (y := nI l) (by omega)
  have b2 := ti_add (x := 48) (y := nI u) (by omega)
  have b3 := ti_sub (x := x) (y := 48) (by omega)
  omega
theorem bz_if {c : Prop} [Decidable c] {x : Int32} (h : x = if c then 1 else 0) : (x = 0 → ¬ c) ∧ (¬ x = 0 → c) := by
  subst h
  by_cases hc : c
  · exact ⟨fun q => absurd q (by rw [if_pos hc]; decide), fun _ => hc⟩
  · exact ⟨fun _ => hc, fun q => absurd (if_neg hc) q⟩
section TXT
variable {ad : Nat → Nat} {d : Nat} {m : Wm} {a na sz tp e : Nat} {tx : Nat → Int32} {p : Nat} {w : Int32}
theorem PS.small (h : PS a sz tp e tx p w m) (A : PA a na sz tp e) : p ≤ 80 := by
  have := h.2.2.2.2.2.1
  have := A.2.2.2.1
  have := A.2.2.2.2.1
  omega
theorem hasM_ok {x y : Int32} : Ct ad μX12_has d [.int x, .int y] m (fun r m' => m' = m ∧ r = some (.int (if ((x >>> (y &&& 31)) &&& 1) = 1 then 1 else 0))) :=
  v_X12_has ⟨fun h => ⟨rfl, by rw [if_neg h]⟩, fun h => ⟨rfl, by rw [if_pos h]⟩⟩
theorem isSide_c {x : Int32} {n : Nat} (hn : m.1 187 1 = nI n) : Ct ad μX12_isSide (d + 1) [.ref (ad 187), .int x] m (fun r m' => m' = m ∧ r = some (.int (if 0 ≤ x ∧ x ≤ nI n - 1 then 1 else 0))) := by
  have h := isSide_ok (ad := ad) (d := d) (m := m) (x := x)
  rw [hn] at h
  exact h
theorem side_ok (A : PA a na sz tp e) (h : PS a sz tp e tx p w m) {n : Nat} (hn : m.1 187 1 = nI n) {used : Int32} : Ct ad μX12_side (d + 3) [.ref (ad 187), .int used] m (fun r m' => r = some (.int (sdF tx e n used (p, w)).1) ∧ PS a sz tp e tx (sdF tx e n used (p, w)).2.1 (sdF tx e n used (p, w)).2.2 m' ∧ Fx (RS [22]) m m') := by
  refine v_X12_side ((digit_ok A h (lo := 0) (hi := 9) (by decide)).to ?_)
  rintro _ m1 ⟨rfl, h1, f1⟩
  have hq : sdF tx e n used (p, w) = if (digF tx e 0 9 (p, w)).2.2 = -1 then (if (0 ≤ (digF tx e 0 9 (p, w)).1 ∧ (digF tx e 0 9 (p, w)).1 ≤ nI n - 1) ∧ ¬ ((used >>> ((digF tx e 0 9 (p, w)).1 &&& 31)) &&& 1) = 1 then digF tx e 0 9 (p, w) else ((digF tx e 0 9 (p, w)).1, fltF (nI (digF tx e 0 9 (p, w)).2.1 - 1) (digF tx e 0 9 (p, w)).2)) else digF tx e 0 9 (p, w) := rfl
  generalize digF tx e 0 9 (p, w) = Q at h1 hq ⊢
  obtain ⟨v, q, u⟩ := Q
  refine ⟨v, rfl, (fine_ok h1).to ?_⟩
  rintro _ m' ⟨eq, rfl⟩
  obtain rfl := eq.symm
  by_cases hu : u = -1
  · have hq2 : sdF tx e n used (p, w) = if (0 ≤ v ∧ v ≤ nI n - 1) ∧ ¬ ((used >>> (v &&& 31)) &&& 1) = 1 then (v, (q, u)) else (v, fltF (nI q - 1) (q, u)) := by rw [hq]; exact if_pos hu
    have bad : ¬ ((0 ≤ v ∧ v ≤ nI n - 1) ∧ ¬ ((used >>> (v &&& 31)) &&& 1) = 1) → AW ad E0 μX12_side (d + 3) (fun r m' => r = some (.int (sdF tx e n used (p, w)).1) ∧ PS a sz tp e tx (sdF tx e n used (p, w)).2.1 (sdF tx e n used (p, w)).2.2 m' ∧ Fx (RS [22]) m m') 31 [(0, .ref (ad 187)), (2, .int v)] [] m1 := fun hb => by
      rw [if_neg hb] at hq2
      rw [hq2]
      refine g_X12_side_31 ?_
      rw [h1.2.2.2.1]
      refine (fault_ok A h1).to ?_
      rintro _ m2 ⟨rfl, h2, f2⟩
      refine ⟨rfl, rfl, ?_, f1.tr f2 (RS_sub rfl)⟩
      show PS a sz tp e tx (fltF (nI q - 1) (q, u)).1 (fltF (nI q - 1) (q, u)).2 m2
      rw [flt_1]
      exact h2
    refine ⟨1, by rw [if_pos hu], fun c => absurd c (by decide), fun _ => (isSide_c ((f1.at (by decide)).trans hn)).to ?_⟩
    rintro _ m' ⟨eq, rfl⟩
    obtain rfl := eq.symm
    by_cases hs : 0 ≤ v ∧ v ≤ nI n - 1
    · refine ⟨1, by rw [if_pos hs], fun c => absurd c (by decide), fun _ => hasM_ok.to ?_⟩
      rintro _ m' ⟨eq, rfl⟩
      obtain rfl := eq.symm
      by_cases hb : ((used >>> (v &&& 31)) &&& 1) = 1
      · exact ⟨1, by rw [if_pos hb], fun c => absurd c (by decide), fun _ => bad (fun q => q.2 hb)⟩
      · refine ⟨0, by rw [if_neg hb], fun _ => ?_, fun c => absurd rfl c⟩
        rw [if_pos ⟨hs, hb⟩] at hq2
        rw [hq2]
        exact ⟨rfl, h1, f1⟩
    · exact ⟨0, by rw [if_neg hs], fun _ => bad (fun q => hs q.1), fun c => absurd rfl c⟩
  · have hq2 : sdF tx e n used (p, w) = (v, (q, u)) := by rw [hq]; exact if_neg hu
    rw [hq2]
    exact ⟨0, by rw [if_neg hu], fun _ => ⟨rfl, h1, f1⟩, fun c => absurd rfl c⟩
/-- one game is read: the two sides and who throws it, the digits used then, the place -/
def oneG (tx : Nat → Int32) (e n : Nat) (used : Int32) (s : Sp) : (Int32 × Bool × Int32 × Bool) × Int32 × Sp :=
  let A := sdF tx e n used s
  let p1 := passF tx e 33 A.2
  let s1 : Sp := ((if p1 = true then A.2.1 + 1 else A.2.1), A.2.2)
  let u1 := used ||| ((1 : Int32) <<< (A.1 &&& 31))
  let s2 := needF tx e 45 s1
  let B := sdF tx e n u1 s2
  let p2 := passF tx e 33 B.2
  ((A.1, p1, B.1, p2), u1 ||| ((1 : Int32) <<< (B.1 &&& 31)), ((if p2 = true then B.2.1 + 1 else B.2.1), B.2.2))
def b12 (b c : Bool) : Int32 := (if b = true then 1 else 0) + (if c = true then 2 else 0)
/-- the plan's row with game g -/
def upG (np : Nat → Int32) (g r : Nat) (G : Int32 × Bool × Int32 × Bool) : Nat → Int32 := upd (upd (upd (upd np (4 * g) G.1) (4 * g + 1) G.2.2.1) (4 * g + 2) (b12 G.2.1 G.2.2.2)) (4 * g + 3) (nI r)
/-- games of one round -/
def gmF (tx : Nat → Int32) (e n r : Nat) : Nat → Int32 → Nat → (Nat → Int32) → Sp → Nat × (Nat → Int32) × Sp
  | 0, _, g, np, s => (g, np, s)
  | k + 1, used, g, np, s => if s.2 = -1 then
      (if (oneG tx e n used s).2.2.2 = -1 then
        (if passF tx e 44 (oneG tx e n used s).2.2 = true then gmF tx e n r k (oneG tx e n used s).2.1 (g + 1) (upG np g r (oneG tx e n used s).1) ((oneG tx e n used s).2.2.1 + 1, (oneG tx e n used s).2.2.2) else (g + 1, upG np g r (oneG tx e n used s).1, (oneG tx e n used s).2.2))
       else (g, np, (oneG tx e n used s).2.2))
    else (g, np, s)
def rdF (tx : Nat → Int32) (e n : Nat) : Nat → Nat → Nat → (Nat → Int32) → Sp → Nat × Nat × (Nat → Int32) × Sp
  | 0, r, g, np, s => (r, g, np, s)
  | k + 1, r, g, np, s => if s.2 = -1 then
      let s1 := if r = 12 then fltF (nI s.1) s else s
      let G := gmF tx e n r 81 0 g np s1
      if passF tx e 59 G.2.2 = true then rdF tx e n k (r + 1) G.1 G.2.1 (G.2.2.1 + 1, G.2.2.2) else (r + 1, G.1, G.2.1, G.2.2)
    else (r, g, np, s)
theorem sd_2 {n : Nat} (hn : n ≤ 8) {used : Int32} {s : Sp} (hs : s.1 < 1000) (h : (sdF tx e n used s).2.2 = -1) : s.2 = -1 ∧ (sdF tx e n used s).2 = (s.1 + 1, s.2) ∧ (0 : Int) ≤ (sdF tx e n used s).1.toInt ∧ (sdF tx e n used s).1.toInt < n ∧ (sdF tx e n used s).1 = hrF tx e s.1 - 48 ∧ ¬ ((used >>> ((sdF tx e n used s).1 &&& 31)) &&& 1) = 1 := by
  have hq : sdF tx e n used s = if (digF tx e 0 9 s).2.2 = -1 then (if (0 ≤ (digF tx e 0 9 s).1 ∧ (digF tx e 0 9 s).1 ≤ nI n - 1) ∧ ¬ ((used >>> ((digF tx e 0 9 s).1 &&& 31)) &&& 1) = 1 then digF tx e 0 9 s else ((digF tx e 0 9 s).1, fltF (nI (digF tx e 0 9 s).2.1 - 1) (digF tx e 0 9 s).2)) else digF tx e 0 9 s := rfl
  by_cases hd : (digF tx e 0 9 s).2.2 = -1
  · obtain ⟨d1, d2, d3, d4⟩ := dig_2 (by omega) hd
    rw [if_pos hd] at hq
    by_cases hc : (0 ≤ (digF tx e 0 9 s).1 ∧ (digF tx e 0 9 s).1 ≤ nI n - 1) ∧ ¬ ((used >>> ((digF tx e 0 9 s).1 &&& 31)) &&& 1) = 1
    · rw [if_pos hc] at hq
      rw [hq]
      have q1 := z_le hc.1.1
      have q2 := z_le hc.1.2
      have z0 : (0 : Int32).toInt = 0 := rfl
      have z1 : (1 : Int32).toInt = 1 := rfl
      have z2 : (nI n).toInt = n := nI_toInt (by omega)
      have z3 := ti_sub (x := nI n) (y := 1) (by omega)
      refine ⟨d1, by rw [d2], by omega, by omega, by rw [d2], hc.2⟩
    · rw [if_neg hc] at hq
      rw [hq] at h
      refine absurd h (flt_no (fun q => ?_))
      rw [d2] at q
      have e2 : nI (s.1 + 1) - 1 = nI s.1 := by rw [← nI_1]; exact Int32.add_sub_cancel _ _
      have q' : nI (s.1 + 1) - 1 = -1 := q
      rw [e2] at q'
      exact m1_ne s.1 (by omega) q'.symm
  · rw [if_neg hd] at hq
    rw [hq] at h
    exact absurd h hd
theorem sd_1 {n : Nat} {used : Int32} {s : Sp} : s.1 ≤ (sdF tx e n used s).2.1 := by
  have hq : sdF tx e n used s = if (digF tx e 0 9 s).2.2 = -1 then (if (0 ≤ (digF tx e 0 9 s).1 ∧ (digF tx e 0 9 s).1 ≤ nI n - 1) ∧ ¬ ((used >>> ((digF tx e 0 9 s).1 &&& 31)) &&& 1) = 1 then digF tx e 0 9 s else ((digF tx e 0 9 s).1, fltF (nI (digF tx e 0 9 s).2.1 - 1) (digF tx e 0 9 s).2)) else digF tx e 0 9 s := rfl
  rw [hq]
  have h1 := dig_1 (tx := tx) (e := e) (lo := 0) (hi := 9) (s := s)
  by_cases hd : (digF tx e 0 9 s).2.2 = -1
  · rw [if_pos hd]
    by_cases hc : (0 ≤ (digF tx e 0 9 s).1 ∧ (digF tx e 0 9 s).1 ≤ nI n - 1) ∧ ¬ ((used >>> ((digF tx e 0 9 s).1 &&& 31)) &&& 1) = 1
    · rw [if_pos hc]; exact h1
    · rw [if_neg hc, flt_1]; exact h1
  · rw [if_neg hd]; exact h1
theorem need_2 {c : Int32} {s : Sp} (hs : s.1 < 2147483648) (h : (needF tx e c s).2 = -1) : s.2 = -1 ∧ passF tx e c s = true ∧ needF tx e c s = (s.1 + 1, s.2) := by
  unfold needF at h ⊢
  by_cases hp : passF tx e c s = true
  · rw [if_pos hp]
    exact ⟨(of_decide_eq_true hp).1, hp, rfl⟩
  · rw [if_neg hp] at h
    exact (flt_2 (p := s.1) (w := s.2) h hs).elim
theorem uI_row {m : Wm} {a k : Nat} {v : Int32} : (uI m a k v).1 a = upd (m.1 a) k v := by
  funext j
  show (if a = a ∧ j = k then v else m.1 a j) = if j = k then v else m.1 a j
  by_cases h : j = k
  · rw [if_pos ⟨rfl, h⟩, if_pos h]
  · rw [if_neg (fun q => h q.2), if_neg h]
theorem uI_cell {m : Wm} {a b k : Nat} {v : Int32} (h : b ≠ a) : (uI m a k v).1 b = m.1 b := by
  funext j
  exact if_neg (fun q => h q.1)
theorem PS.u {a' k : Nat} {v : Int32} (h : PS a sz tp e tx p w m) (h1 : a' ≠ 187) (h2 : a' ≠ a) : PS a sz tp e tx p w (uI m a' k v) := by
  obtain ⟨b1, b2, b3, b4, b5, b6, b7⟩ := h
  exact ⟨b1, (if_neg (fun q => h1 q.1.symm)).trans b2, (if_neg (fun q => h1 q.1.symm)).trans b3, (if_neg (fun q => h1 q.1.symm)).trans b4, (if_neg (fun q => h1 q.1.symm)).trans b5, b6, fun k hk => (if_neg (fun q => h2 q.1.symm)).trans (b7 k hk)⟩
theorem pass_c {c : Int32} {s : Sp} {x : Int32} (h : x = if passF tx e c s = true then 1 else 0) : (x = 0 → ¬ passF tx e c s = true) ∧ (¬ x = 0 → passF tx e c s = true) := bz_if h
theorem dig_u {lo hi : Int32} {s : Sp} : (digF tx e lo hi s).2.1 ≤ s.1 + 1 := by
  unfold digF
  by_cases hw : s.2 = -1
  · rw [if_pos hw]
    by_cases hc : 48 + lo ≤ hrF tx e s.1 ∧ hrF tx e s.1 ≤ 48 + hi
    · rw [if_pos hc]; exact Nat.le_refl _
    · rw [if_neg hc, flt_1]; exact Nat.le_succ _
  · rw [if_neg hw]; exact Nat.le_succ _
theorem sd_u {n : Nat} {used : Int32} {s : Sp} : (sdF tx e n used s).2.1 ≤ s.1 + 1 := by
  have hq : sdF tx e n used s = if (digF tx e 0 9 s).2.2 = -1 then (if (0 ≤ (digF tx e 0 9 s).1 ∧ (digF tx e 0 9 s).1 ≤ nI n - 1) ∧ ¬ ((used >>> ((digF tx e 0 9 s).1 &&& 31)) &&& 1) = 1 then digF tx e 0 9 s else ((digF tx e 0 9 s).1, fltF (nI (digF tx e 0 9 s).2.1 - 1) (digF tx e 0 9 s).2)) else digF tx e 0 9 s := rfl
  rw [hq]
  have h1 := dig_u (tx := tx) (e := e) (lo := 0) (hi := 9) (s := s)
  by_cases hd : (digF tx e 0 9 s).2.2 = -1
  · rw [if_pos hd]
    by_cases hc : (0 ≤ (digF tx e 0 9 s).1 ∧ (digF tx e 0 9 s).1 ≤ nI n - 1) ∧ ¬ ((used >>> ((digF tx e 0 9 s).1 &&& 31)) &&& 1) = 1
    · rw [if_pos hc]; exact h1
    · rw [if_neg hc, flt_1]; exact h1
  · rw [if_neg hd]; exact h1
theorem need_u {c : Int32} {s : Sp} : (needF tx e c s).1 ≤ s.1 + 1 := by
  unfold needF
  by_cases h : passF tx e c s = true
  · rw [if_pos h]; exact Nat.le_refl _
  · rw [if_neg h, flt_1]; exact Nat.le_succ _
theorem ps_1 {b : Bool} {q : Nat} : q ≤ (if b = true then q + 1 else q) ∧ (if b = true then q + 1 else q) ≤ q + 1 := by
  cases b with
  | true => exact ⟨Nat.le_succ _, Nat.le_refl _⟩
  | false => exact ⟨Nat.le_refl _, Nat.le_succ _⟩
theorem oneG_2 {n : Nat} (hn : n ≤ 8) {used : Int32} {s : Sp} (hs : s.1 ≤ 80) (h : (oneG tx e n used s).2.2.2 = -1) : s.2 = -1 ∧ ((0 : Int) ≤ (oneG tx e n used s).1.1.toInt ∧ (oneG tx e n used s).1.1.toInt < n) ∧ ((0 : Int) ≤ (oneG tx e n used s).1.2.2.1.toInt ∧ (oneG tx e n used s).1.2.2.1.toInt < n) ∧ s.1 + 3 ≤ (oneG tx e n used s).2.2.1 := by
  dsimp only [oneG] at h ⊢
  have sA := sd_u (tx := tx) (e := e) (n := n) (used := used) (s := s)
  have fA := sd_2 (tx := tx) (e := e) hn (used := used) (s := s) (by omega)
  generalize sdF tx e n used s = A at h sA fA ⊢
  obtain ⟨a1, q, u⟩ := A
  dsimp only at h sA fA ⊢
  generalize passF tx e 33 (q, u) = P1 at h ⊢
  have s1b := ps_1 (b := P1) (q := q)
  generalize (if P1 = true then q + 1 else q) = q1 at h s1b ⊢
  have s2b := need_u (tx := tx) (e := e) (c := 45) (s := (q1, u))
  have s2f := need_2 (tx := tx) (e := e) (c := 45) (s := (q1, u)) (by show q1 < _; omega)
  generalize needF tx e 45 (q1, u) = s2 at h s2b s2f ⊢
  dsimp only at s2b s2f
  have fB := sd_2 (tx := tx) (e := e) hn (used := used ||| ((1 : Int32) <<< (a1 &&& 31))) (s := s2) (by omega)
  generalize sdF tx e n (used ||| ((1 : Int32) <<< (a1 &&& 31))) s2 = B at h fB ⊢
  obtain ⟨b1, q2, u2⟩ := B
  dsimp only at h fB ⊢
  generalize passF tx e 33 (q2, u2) = P2 at h ⊢
  have s3b := ps_1 (b := P2) (q := q2)
  obtain ⟨b2, b3, b4, b5, -, -⟩ := fB h
  obtain ⟨c1, -, c3⟩ := s2f b2
  obtain ⟨d2, d3, d4, d5, -, -⟩ := fA c1
  have e1 : q2 = s2.1 + 1 := congrArg Prod.fst b3
  have e2 : s2.1 = q1 + 1 := congrArg Prod.fst c3
  have e3 : q = s.1 + 1 := congrArg Prod.fst d3
  exact ⟨d2, ⟨d4, d5⟩, ⟨b4, b5⟩, by omega⟩
theorem upG_w {m : Wm} {g r : Nat} {G : Int32 × Bool × Int32 × Bool} (w : WT m) (hg : g < 40) (h1 : (0 : Int) ≤ G.1.toInt ∧ G.1.toInt ≤ 7) (h2 : (0 : Int) ≤ G.2.2.1.toInt ∧ G.2.2.1.toInt ≤ 7) :
    WT (uI (uI (uI (uI m 199 (4 * g) G.1) 199 (4 * g + 1) G.2.2.1) 199 (4 * g + 2) (b12 G.2.1 G.2.2.2)) 199 (4 * g + 3) (nI r)) := by
  have t : ∀ j, j < 4 → TY 199 (4 * g + j) = if j < 2 then some (0, 7) else none := fun j hj => by
    have : TY 199 (4 * g + j) = if (4 * g + j) % 4 < 2 then some (0, 7) else none := rfl
    rw [this, show (4 * g + j) % 4 = j by omega]
  have t0 := t 0 (by decide)
  exact (((w.t (t 0 (by decide)) h1.1 h1.2).t (t 1 (by decide)) h2.1 h2.2).n (t 2 (by decide))).n (t 3 (by decide))
theorem gm_ok (A : PA a na sz tp e) {n r : Nat} (hn : n ≤ 8) (hr : r < 1000) (ha : a ≠ 199) {m0 : Wm} {Q : Option Value → Wm → Prop} (hm0 : m0.1 187 1 = nI n) :
    ∀ (k : Nat) (used : Int32) (g : Nat) (np : Nat → Int32) (p : Nat) (w : Int32) (m : Wm), e - p < k → (w = -1 → 4 * g ≤ p) → g ≤ 40 → PS a sz tp e tx p w m → m.1 199 = np → Fx (RS [22, 27]) m0 m → WT m →
    (∀ m' g' np' p' w', gmF tx e n r k used g np (p, w) = (g', np', (p', w')) → PS a sz tp e tx p' w' m' → m'.1 199 = np' → Fx (RS [22, 27]) m0 m' → WT m' → (w' = -1 → 4 * g' ≤ p' + 1 ∧ 1 ≤ g') → g' ≤ 40 →
      Ct ad μX12_passes (d + 4) [.ref (ad 187), .int 59] m' (fun r' m1 => ∃ v2 : Int32, r' = some (.int v2) ∧ AW ad E0 μX12_plan (d + 4 + 1) Q 41 [(0, .ref (ad 187)), (1, .int (nI r + 1)), (2, .int (nI g')), (3, .int v2)] [] m1)) →
    AW ad E0 μX12_plan (d + 4 + 1) Q 72 [(0, .ref (ad 187)), (1, .int (nI r)), (2, .int (nI g)), (4, .int used), (5, .int 1)] [] m := by
  intro k
  induction k with
  | zero => intros; omega
  | succ k ih =>
    intro used g np p w m hk hg hg4 h hnp f wt K
    have hpe : p ≤ e := h.2.2.2.2.2.1
    have h80 := h.small A
    refine g_X12_plan_72 ⟨fun c => absurd c (by decide), fun _ => (fine_ok h).to ?_⟩
    rintro _ m' ⟨eq, rfl⟩
    obtain rfl := eq.symm
    by_cases hw : w = -1
    · subst hw
      refine ⟨1, rfl, fun c => absurd c (by decide), fun _ => ?_⟩
      obtain ⟨A1, hA⟩ : ∃ A1, sdF tx e n used (p, -1) = A1 := ⟨_, rfl⟩
      obtain ⟨a1, q1, u1⟩ := A1
      obtain ⟨P1, hP1⟩ : ∃ P1, passF tx e 33 (q1, u1) = P1 := ⟨_, rfl⟩
      obtain ⟨q2, hq2⟩ : ∃ q2, (if P1 = true then q1 + 1 else q1) = q2 := ⟨_, rfl⟩
      obtain ⟨S2, hS2⟩ : ∃ S2, needF tx e 45 (q2, u1) = S2 := ⟨_, rfl⟩
      obtain ⟨q3, u3⟩ := S2
      obtain ⟨B1, hB⟩ : ∃ B1, sdF tx e n (used ||| ((1 : Int32) <<< (a1 &&& 31))) (q3, u3) = B1 := ⟨_, rfl⟩
      obtain ⟨b1, q4, u4⟩ := B1
      obtain ⟨P2, hP2⟩ : ∃ P2, passF tx e 33 (q4, u4) = P2 := ⟨_, rfl⟩
      obtain ⟨q5, hq5⟩ : ∃ q5, (if P2 = true then q4 + 1 else q4) = q5 := ⟨_, rfl⟩
      obtain ⟨u2, hu2⟩ : ∃ u2, (used ||| ((1 : Int32) <<< (a1 &&& 31))) ||| ((1 : Int32) <<< (b1 &&& 31)) = u2 := ⟨_, rfl⟩
      have hG : oneG tx e n used (p, -1) = ((a1, P1, b1, P2), u2, (q5, u4)) := by
        unfold oneG
        rw [hA]
        dsimp only
        rw [hP1, hq2, hS2, hB]
        dsimp only
        rw [hP2, hq5, hu2]
      have ex : gmF tx e n r (k + 1) used g np (p, -1) = if u4 = -1 then
        (if passF tx e 44 (q5, u4) = true then gmF tx e n r k u2 (g + 1) (upG np g r (a1, P1, b1, P2)) (q5 + 1, u4) else (g + 1, upG np g r (a1, P1, b1, P2), (q5, u4)))
        else (g, np, (q5, u4)) := by
        have ex0 : gmF tx e n r (k + 1) used g np (p, -1) = if (oneG tx e n used (p, -1)).2.2.2 = -1 then
          (if passF tx e 44 (oneG tx e n used (p, -1)).2.2 = true then gmF tx e n r k (oneG tx e n used (p, -1)).2.1 (g + 1) (upG np g r (oneG tx e n used (p, -1)).1) ((oneG tx e n used (p, -1)).2.2.1 + 1, (oneG tx e n used (p, -1)).2.2.2) else (g + 1, upG np g r (oneG tx e n used (p, -1)).1, (oneG tx e n used (p, -1)).2.2))
          else (g, np, (oneG tx e n used (p, -1)).2.2) := if_pos rfl
        rw [hG] at ex0
        exact ex0
      rw [ex] at K
      have g2 := oneG_2 (tx := tx) (e := e) hn (used := used) (s := (p, -1)) h80
      rw [hG] at g2
      dsimp only at g2
      refine (side_ok A h (n := n) ((f.at (by decide)).trans hm0)).to ?_
      rintro _ m7 ⟨rfl, h7, f7⟩
      rw [hA] at h7 ⊢
      dsimp only at h7 ⊢
      refine ⟨_, rfl, (passes_ok A h7 (by decide)).to ?_⟩
      rintro _ m9 ⟨rfl, h9, f9⟩
      rw [hP1] at h9 ⊢
      rw [hq2] at h9
      refine ⟨_, rfl, (need_ok A h9 (by decide)).to ?_⟩
      rintro _ m11 ⟨rfl, h11, f11⟩
      rw [hS2] at h11
      dsimp only at h11
      have f11' : Fx (RS [22]) m m11 := (f7.tr f9 (RS_sub rfl)).tr f11 (RS_sub rfl)
      refine ⟨rfl, (side_ok A h11 (n := n) ((f11'.at (by decide)).trans ((f.at (by decide)).trans hm0))).to ?_⟩
      rintro _ m12 ⟨rfl, h12, f12⟩
      rw [hB] at h12 ⊢
      dsimp only at h12 ⊢
      refine ⟨_, rfl, (passes_ok A h12 (by decide)).to ?_⟩
      rintro _ m14 ⟨rfl, h14, f14⟩
      rw [hP2] at h14 ⊢
      rw [hq5] at h14
      have f14' : Fx (RS [22]) m m14 := (f11'.tr f12 (RS_sub rfl)).tr f14 (RS_sub rfl)
      have c199 : m14.1 199 = np := (fx_cell (ρ := 27) f14' (fun _ => rfl) rfl).trans hnp
      have F14 : Fx (RS [22, 27]) m0 m14 := f.tr f14' (RS_sub rfl)
      have w14 := wt.fx f14'
      refine ⟨_, rfl, (fine_ok h14).to ?_⟩
      rintro _ m' ⟨eq, rfl⟩
      obtain rfl := eq.symm
      rw [hu2]
      have h5e : q5 ≤ e := h14.2.2.2.2.2.1
      by_cases hu4 : u4 = -1
      · subst hu4
        rw [if_pos rfl] at K
        obtain ⟨-, ⟨ga, gb⟩, ⟨gc, gd⟩, gl⟩ := g2 rfl
        have hg' := hg rfl
        have l4 : (4 : Int32) * nI g = nI (4 * g) := l_mul 4 4 rfl g
        refine ⟨1, rfl, fun c => absurd c (by decide), fun _ => ?_⟩
        rw [l4, nI_1, add_l 2 2 rfl]
        have e80 : e ≤ 80 := by have := A.2.2.2.1; have := A.2.2.2.2.1; omega
        have st : ∀ x1 x2 : Int32, x1 = (if P1 = true then 1 else 0) → x2 = (if P2 = true then 2 else 0) → AW ad E0 μX12_plan (d + 4 + 1) Q 198 [(0, .ref (ad 187)), (1, .int (nI r)), (2, .int (nI g)), (4, .int u2)] [.int x2, .int x1, .int (nI (4 * g + 2)), .ref (ad 199)] (uI (uI m14 199 (nI (4 * g)).toNatClampNeg a1) 199 (nI (4 * g + 1)).toNatClampNeg b1) := by
          rintro x1 x2 rfl rfl
          refine g_X12_plan_198 (ne3 := 160) rfl ?_
          rw [l4, add_l 3 3 rfl, nI_clamp (by omega), nI_clamp (by omega), nI_clamp (by omega), nI_clamp (by omega)]
          have hb : (if P1 = true then (1 : Int32) else 0) + (if P2 = true then (2 : Int32) else 0) = b12 P1 P2 := rfl
          rw [hb]
          have wU : WT (uI (uI (uI (uI m14 199 (4 * g) a1) 199 (4 * g + 1) b1) 199 (4 * g + 2) (b12 P1 P2)) 199 (4 * g + 3) (nI r)) := upG_w (G := (a1, P1, b1, P2)) w14 (by omega) ⟨ga, by show a1.toInt ≤ 7; omega⟩ ⟨gc, by show b1.toInt ≤ 7; omega⟩
          have fU : Fx (RS [22, 27]) m0 (uI (uI (uI (uI m14 199 (4 * g) a1) 199 (4 * g + 1) b1) 199 (4 * g + 2) (b12 P1 P2)) 199 (4 * g + 3) (nI r)) := (((F14.i rfl).i rfl).i rfl).i rfl
          have cU : (uI (uI (uI (uI m14 199 (4 * g) a1) 199 (4 * g + 1) b1) 199 (4 * g + 2) (b12 P1 P2)) 199 (4 * g + 3) (nI r)).1 199 = upG np g r (a1, P1, b1, P2) := by
            rw [uI_row, uI_row, uI_row, uI_row, c199]
            rfl
          have pU : PS a sz tp e tx q5 (-1) (uI (uI (uI (uI m14 199 (4 * g) a1) 199 (4 * g + 1) b1) 199 (4 * g + 2) (b12 P1 P2)) 199 (4 * g + 3) (nI r)) := (((h14.u (by decide) (Ne.symm ha)).u (by decide) (Ne.symm ha)).u (by decide) (Ne.symm ha)).u (by decide) (Ne.symm ha)
          generalize uI (uI (uI (uI m14 199 (4 * g) a1) 199 (4 * g + 1) b1) 199 (4 * g + 2) (b12 P1 P2)) 199 (4 * g + 3) (nI r) = mU at wU fU cU pU ⊢
          refine ⟨nat_in (by omega) (by decide), nat_in (by omega) (by decide), (passes_ok A pU (by decide)).to ?_⟩
          rintro _ m2 ⟨rfl, h2, f2⟩
          have c2 : m2.1 199 = upG np g r (a1, P1, b1, P2) := (fx_cell (ρ := 27) f2 (fun _ => rfl) rfl).trans cU
          by_cases h44 : passF tx e 44 (q5, -1) = true
          · rw [if_pos h44] at h2 K ⊢
            have hq : q5 < e := pass_lt h44 (by decide)
            refine ⟨1, rfl, ?_⟩
            rw [nI_1]
            exact ih u2 (g + 1) _ (q5 + 1) (-1) m2 (by omega) (fun _ => by omega) (by omega) h2 c2 (fU.tr f2 (RS_sub rfl)) (wU.fx f2) K
          · rw [if_neg h44] at h2 K ⊢
            refine ⟨0, rfl, ?_⟩
            rw [nI_1]
            exact g_X12_plan_72 ⟨fun _ => K m2 (g + 1) _ q5 (-1) rfl h2 c2 (fU.tr f2 (RS_sub rfl)) (wU.fx f2) (fun _ => ⟨by omega, by omega⟩) (by omega), fun c => absurd rfl c⟩
        refine ⟨nat_in (by omega) (by decide), nat_in (by omega) (by decide), fun c => ⟨fun c' => ?_, fun c' => ?_⟩, fun c => ⟨fun c' => ?_, fun c' => ?_⟩⟩
        · exact st 0 0 (by rw [if_neg ((bz_if rfl).1 c)]) (by rw [if_neg ((bz_if rfl).1 c')])
        · exact st 0 2 (by rw [if_neg ((bz_if rfl).1 c)]) (by rw [if_pos ((bz_if rfl).2 c')])
        · exact st 1 0 (by rw [if_pos ((bz_if rfl).2 c)]) (by rw [if_neg ((bz_if rfl).1 c')])
        · exact st 1 2 (by rw [if_pos ((bz_if rfl).2 c)]) (by rw [if_pos ((bz_if rfl).2 c')])
      · rw [if_neg hu4] at K
        refine ⟨0, by rw [if_neg hu4], fun _ => (passes_ok A h14 (by decide)).to ?_, fun c => absurd rfl c⟩
        rintro _ m2 ⟨rfl, h2, f2⟩
        have h44 : ¬ passF tx e 44 (q5, u4) = true := fun q => hu4 (of_decide_eq_true q).1
        rw [if_neg h44] at h2 ⊢
        exact ⟨0, rfl, g_X12_plan_72 ⟨fun _ => K m2 g np q5 u4 rfl h2 ((fx_cell (ρ := 27) f2 (fun _ => rfl) rfl).trans c199) (F14.tr f2 (RS_sub rfl)) (w14.fx f2) (fun q => absurd q hu4) hg4, fun c => absurd rfl c⟩⟩
    · have ex : gmF tx e n r (k + 1) used g np (p, w) = (g, np, (p, w)) := if_neg hw
      rw [ex] at K
      exact ⟨0, by rw [if_neg hw], fun _ => K m g np p w rfl h hnp f wt (fun q => absurd q hw) hg4, fun c => absurd rfl c⟩
end TXT
