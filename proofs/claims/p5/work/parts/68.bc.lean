/-! A GAME SETTLED: points, who teaches whom; the class's side -/
def artL (s : Nat → Int32) (f t : Nat) : Nat → Nat → Int32 → Int32 → Int32
  | 0, _, bst, _ => bst
  | k + 1, a, bst, w => if s (4 * f + a) - s (4 * t + a) ≤ w then artL s f t k (a + 1) bst w else artL s f t k (a + 1) (nI a) (s (4 * f + a) - s (4 * t + a))
def artG (s : Nat → Int32) (f t n : Nat) : Int32 := artL s f t n 0 (-1) 0
def gnG (il : Bool) (up have_ own : Int32) : Int32 := if il = true then 0 else if own - have_ < up then own - have_ else up
def clS (x : Int32) : Int32 := if 0 < (if x < 7 then x else 7) then (if x < 7 then x else 7) else 0
def gainG (v : EV) (f t : Nat) (g : GS) : Int32 := gnG (iE v f) (lE v 1) (g.1 (4 * t + (artG g.1 f t (aE v)).toNatClampNeg)) (g.1 (4 * f + (artG g.1 f t (aE v)).toNatClampNeg))
def tchG (cn : Bool) (v : EV) (f t : Nat) (g : GS) : GS :=
  if artG g.1 f t (aE v) = -1 then g else
    (upd (upd g.1 (4 * t + (artG g.1 f t (aE v)).toNatClampNeg) (g.1 (4 * t + (artG g.1 f t (aE v)).toNatClampNeg) + gainG v f t g)) (4 * f + (artG g.1 f t (aE v)).toNatClampNeg) (clS (g.1 (4 * f + (artG g.1 f t (aE v)).toNatClampNeg) + lE v 2 - 1)),
     g.2.1, (if cn = true then upd g.2.2.1 f (g.2.2.1 f + gainG v f t g) else g.2.2.1), g.2.2.2)
def ptG (a b : Nat) (won : Int32) (g : GS) : GS :=
  (g.1, (if won = 2 then upd (upd g.2.1 a (g.2.1 a + 1)) b (upd g.2.1 a (g.2.1 a + 1) b + 1) else upd g.2.1 (if won = 0 then a else b) (g.2.1 (if won = 0 then a else b) + 3)), g.2.2)
def stl1 (cn : Bool) (v : EV) (w l : Nat) (g : GS) : GS := if lE v 0 = 0 ∨ lE v 0 = 2 then tchG cn v w l g else g
def stl2 (cn : Bool) (v : EV) (w l : Nat) (g : GS) : GS := if lE v 0 = 1 ∨ lE v 0 = 2 then tchG cn v l w g else g
/-- by POINTS and RAISED if they count -/
def stlG (cn : Bool) (v : EV) (a b : Nat) (won : Int32) (g : GS) : GS :=
  if won = 2 then (if cn = true then ptG a b won g else g)
  else stl2 cn v (if won = 0 then a else b) (if won = 0 then b else a) (stl1 cn v (if won = 0 then a else b) (if won = 0 then b else a) (if cn = true then ptG a b won g else g))
theorem artL_of {s : Nat → Int32} {f t : Nat} : ∀ (k a : Nat) (bst w : Int32), (bst = -1 ∨ ∃ j, j < a ∧ bst = nI j) → artL s f t k a bst w = -1 ∨ ∃ j, j < a + k ∧ artL s f t k a bst w = nI j := by
  intro k
  induction k with
  | zero => intro a bst w h; exact h
  | succ k ih =>
    intro a bst w h
    have e : artL s f t (k + 1) a bst w = if s (4 * f + a) - s (4 * t + a) ≤ w then artL s f t k (a + 1) bst w else artL s f t k (a + 1) (nI a) (s (4 * f + a) - s (4 * t + a)) := rfl
    rw [e, show a + (k + 1) = a + 1 + k by omega]
    by_cases c : s (4 * f + a) - s (4 * t + a) ≤ w
    · rw [if_pos c]
      exact ih _ _ _ (h.imp id (fun ⟨j, hj, e⟩ => ⟨j, by omega, e⟩))
    · rw [if_neg c]
      exact ih _ _ _ (Or.inr ⟨a, by omega, rfl⟩)
theorem artG_of {s : Nat → Int32} {f t n : Nat} : artG s f t n = -1 ∨ ∃ j, j < n ∧ artG s f t n = nI j := by
  have := artL_of (s := s) (f := f) (t := t) n 0 (-1) 0 (Or.inl rfl)
  rw [Nat.zero_add] at this
  exact this
theorem upd_eq {p q : Nat → Int32} {i k : Nat} {x : Int32} (h : p k = q k) : upd p i x k = upd q i x k := by
  unfold upd
  by_cases e : k = i
  · rw [if_pos e, if_pos e]
  · rw [if_neg e, if_neg e]; exact h
def GR (ρ : Nat) : Prop := ρ = 3 ∨ ρ = 4 ∨ ρ = 5 ∨ ρ = 6 ∨ ρ = 11 ∨ ρ = 12 ∨ ρ = 13
theorem clampS {ad : Nat → Nat} {d : Nat} {m : Wm} {x : Int32} : Ct ad μX11_clamp d [.int x, .int 0, .int 7] m (fun r m' => m' = m ∧ r = some (.int (clS x))) := (clampC (by decide)).to (fun r m1 h => h)
section STL
variable {ad : Nat → Nat} {d b ρ f t : Nat} {m m' m0 : Wm} {g : GS} {v : EV} {S : List Nat}
theorem GR.e1 (h : GR ρ) : ([2, ρ] : List Nat).all (fun x => !(([1, 41, 42, 43] : List Nat).elem x)) = true := by rcases h with rfl | rfl | rfl | rfl | rfl | rfl | rfl <;> rfl
theorem GR.e2 (h : GR ρ) : ([14] : List Nat).elem ρ = false := by rcases h with rfl | rfl | rfl | rfl | rfl | rfl | rfl <;> rfl
theorem GR.e3 (h : GR ρ) : ([2] : List Nat).elem ρ = false := by rcases h with rfl | rfl | rfl | rfl | rfl | rfl | rfl <;> rfl
theorem SS.wu (hb : SS b ρ) (w : WT m) {j k : Nat} {x : Int32} (hj : j ≤ 4) : WT (uI m (b + j) k x) := w.n (hb.2 j k hj).2
theorem SS.fu (hb : SS b ρ) (h : Fx (RS [2, ρ]) m0 m) {j k : Nat} {x : Int32} (hj : j ≤ 4) : Fx (RS [2, ρ]) m0 (uI m (b + j) k x) := h.i (by
  unfold RS
  rw [(hb.2 j k hj).1]
  exact List.elem_eq_true_of_mem (by simp))
theorem HC.sk (h : HC b m g) {i : Nat} {x : Int32} : HC b (uI m (b + 1) i x) (upd g.1 i x, g.2) := by
  obtain ⟨h1, h2, h3, h4, h5⟩ := h
  refine ⟨fun k hk => ?_, fun k hk => (u_ne (by omega)).trans (h2 k hk), fun k hk => (u_ne (by omega)).trans (h3 k hk), fun k hk => (u_ne (by omega)).trans (h4 k hk), (u_ne (by omega)).trans h5⟩
  rw [uI_row]
  exact upd_eq (h1 k hk)
theorem HC.pt (h : HC b m g) {i : Nat} {x : Int32} : HC b (uI m (b + 2) i x) (g.1, upd g.2.1 i x, g.2.2) := by
  obtain ⟨h1, h2, h3, h4, h5⟩ := h
  refine ⟨fun k hk => (u_ne (by omega)).trans (h1 k hk), fun k hk => ?_, fun k hk => (u_ne (by omega)).trans (h3 k hk), fun k hk => (u_ne (by omega)).trans (h4 k hk), (u_ne (by omega)).trans h5⟩
  rw [uI_row]
  exact upd_eq (h2 k hk)
theorem HC.ra (h : HC b m g) {i : Nat} {x : Int32} : HC b (uI m (b + 3) i x) (g.1, g.2.1, upd g.2.2.1 i x, g.2.2.2) := by
  obtain ⟨h1, h2, h3, h4, h5⟩ := h
  refine ⟨fun k hk => (u_ne (by omega)).trans (h1 k hk), fun k hk => (u_ne (by omega)).trans (h2 k hk), fun k hk => ?_, fun k hk => (u_ne (by omega)).trans (h4 k hk), (u_ne (by omega)).trans h5⟩
  rw [uI_row]
  exact upd_eq (h3 k hk)
theorem HC.th (h : HC b m g) {i : Nat} {x : Int32} : HC b (uI m (b + 4) i x) (g.1, g.2.1, g.2.2.1, upd g.2.2.2.1 i x, g.2.2.2.2) := by
  obtain ⟨h1, h2, h3, h4, h5⟩ := h
  refine ⟨fun k hk => (u_ne (by omega)).trans (h1 k hk), fun k hk => (u_ne (by omega)).trans (h2 k hk), fun k hk => (u_ne (by omega)).trans (h3 k hk), fun k hk => ?_, (u_ne (by omega)).trans h5⟩
  rw [uI_row]
  exact upd_eq (h4 k hk)
theorem HC.lu (h : HC b m g) {x : Int32} : HC b (uI m b 4 x) (g.1, g.2.1, g.2.2.1, g.2.2.2.1, x) := by
  obtain ⟨h1, h2, h3, h4, h5⟩ := h
  exact ⟨fun k hk => (u_ne (by omega)).trans (h1 k hk), fun k hk => (u_ne (by omega)).trans (h2 k hk), fun k hk => (u_ne (by omega)).trans (h3 k hk), fun k hk => (u_ne (by omega)).trans (h4 k hk), u_eq⟩
theorem HC.o (h : HC b m g) {a i : Nat} {x : Int32} (hn : ¬ (b ≤ a ∧ a ≤ b + 4)) : HC b (uI m a i x) g := by
  obtain ⟨h1, h2, h3, h4, h5⟩ := h
  exact ⟨fun k hk => (u_ne (by omega)).trans (h1 k hk), fun k hk => (u_ne (by omega)).trans (h2 k hk), fun k hk => (u_ne (by omega)).trans (h3 k hk), fun k hk => (u_ne (by omega)).trans (h4 k hk), (u_ne (by omega)).trans h5⟩
theorem furthC (hb : SS b ρ) (h : HC b m g) (hf : f < 8) (ht : t < 8) {ar : Nat} (ha : ar ≤ 4) : Ct ad μX8_furthestArt (d + 1) [.ref (ad b), .int (nI f), .int (nI t), .int (nI ar)] m (fun r m' => m' = m ∧ r = some (.int (artG g.1 f t ar))) := by
  refine v_X8_furthestArt hb.1 ?_
  rw [ix_beg hf, ix_beg ht]
  have L : ∀ (k a : Nat) (bst w : Int32), a + k = ar → AW ad E0 μX8_furthestArt (d + 1) (fun r m' => m' = m ∧ r = some (.int (artL g.1 f t k a bst w))) 27 [(0, .ref (ad b)), (3, .int (nI ar)), (4, .int bst), (5, .int w), (6, .int (nI (4 * f))), (7, .int (nI (4 * t))), (8, .int (nI a))] [] m := by
    intro k
    induction k with
    | zero =>
      intro a bst w hk
      exact g_X8_furthestArt_27 hb.1 ⟨fun _ => ⟨rfl, rfl⟩, fun c => absurd ((nI_leI (by omega) (by omega)).mpr (by omega)) c⟩
    | succ k ih =>
      intro a bst w hk
      have e : artL g.1 f t (k + 1) a bst w = if g.1 (4 * f + a) - g.1 (4 * t + a) ≤ w then artL g.1 f t k (a + 1) bst w else artL g.1 f t k (a + 1) (nI a) (g.1 (4 * f + a) - g.1 (4 * t + a)) := rfl
      rw [e]
      refine g_X8_furthestArt_27 hb.1 ⟨fun c => absurd ((nI_leI (by omega) (by omega)).mp c) (by omega), fun _ => ?_⟩
      rw [nI_add, nI_add, nI_1, nI_clamp (by omega), nI_clamp (by omega), h.1 (4 * f + a) (by omega), h.1 (4 * t + a) (by omega)]
      refine ⟨fun c => absurd ((le_l 32 32 rfl (by decide) (by omega)).mp c) (by omega), fun _ => ⟨fun c => absurd ((le_l 32 32 rfl (by decide) (by omega)).mp c) (by omega), fun _ => ⟨nat_in (by omega) (by decide), nat_in (by omega) (by decide), fun c => ?_, fun c => ?_⟩⟩⟩
      · rw [if_pos c]; exact ih _ _ _ (by omega)
      · rw [if_neg c]; exact ih _ _ _ (by omega)
  exact L ar 0 (-1) 0 (by omega)
theorem bit_0 (x : Int32) {k : Nat} (hk : k < 31) : ((x >>> (nI k &&& 31)) &&& 1) = 0 ↔ bt x k = false := by
  have h1 := bit_q x hk
  have h2 := t_and1 (x >>> (nI k &&& 31))
  generalize (x >>> (nI k &&& 31)) &&& 1 = y at h1 h2
  constructor
  · intro q
    cases z : bt x k with
    | false => rfl
    | true => have := h1.mpr z; rw [q] at this; exact absurd this (by decide)
  · intro q
    have n1 : ¬ y = 1 := fun z => by have := h1.mp z; rw [q] at this; cases this
    have z1 : (1 : Int32).toInt = 1 := rfl
    have z0 : (0 : Int32).toInt = 0 := rfl
    have := z_ne n1
    exact (fa_eq _ _).mpr (by omega)
theorem isIllC (h : illC m (iE v)) {s : Nat} (hs : s < 8) : Ct ad μX1_isIll d [.ref (ad 3), .int (nI s)] m (fun r m' => m' = m ∧ r = some (.int (if iE v s = true then 1 else 0))) := by
  have hb := h s hs
  refine v_X1_isIll ⟨fun c => ⟨rfl, ?_⟩, fun c => ⟨rfl, ?_⟩⟩
  · have := (bit_0 _ (by omega)).mp c
    rw [hb] at this
    rw [if_neg (by rw [this]; decide)]
  · have : iE v s = true := by
      cases e : iE v s with
      | true => rfl
      | false => exact absurd ((bit_0 _ (by omega)).mpr (hb.trans e)) c
    rw [if_pos this]
set_option maxHeartbeats 1000000 in
theorem teachC (hb : SS b ρ) (hρ : GR ρ) (w : WT m) (f0 : Fx (RS [2, ρ]) m0 m) (h : HC b m g) (hE : EC m v) (hf : f < 8) (ht : t < 8) (hft : f ≠ t) {x4 : Int32} {cn : Bool} (hc : x4 = 0 ↔ cn = false) :
    Ct ad μX1_teach (d + 2) [.ref (ad 3), .ref (ad b), .int (nI f), .int (nI t), .int x4] m (fun r m' => r = none ∧ WT m' ∧ Fx (RS [2, ρ]) m0 m' ∧ HC b m' (tchG cn v f t g)) := by
  obtain ⟨e1, e2, e3, e4, e5, e6, e7⟩ := hE
  refine v_X1_teach hb.1 ?_
  rw [e2]
  refine (furthC (d := d) hb h hf ht e4).to ?_
  rintro _ m1 ⟨eq, rfl⟩
  obtain rfl := eq.symm
  refine ⟨_, rfl, fun c => ?_, fun c => ⟨rfl, w, f0, ?_⟩⟩
  · rcases artG_of (s := g.1) (f := f) (t := t) (n := aE v) with q | ⟨a, ha, q⟩
    · exact absurd q c
    have G : tchG cn v f t g = (upd (upd g.1 (4 * t + a) (g.1 (4 * t + a) + gnG (iE v f) (lE v 1) (g.1 (4 * t + a)) (g.1 (4 * f + a)))) (4 * f + a) (clS (g.1 (4 * f + a) + lE v 2 - 1)), g.2.1, (if cn = true then upd g.2.2.1 f (g.2.2.1 f + gnG (iE v f) (lE v 1) (g.1 (4 * t + a)) (g.1 (4 * f + a))) else g.2.2.1), g.2.2.2) := by
      unfold tchG gainG
      rw [if_neg c, q, nI_clamp (by omega)]
    rw [G, q]
    refine (skillC (d := d + 1) hb h ht (a := a) (by omega)).to ?_
    rintro _ m2 ⟨eq, rfl⟩
    obtain rfl := eq.symm
    refine ⟨_, rfl, (skillC (d := d + 1) hb h hf (a := a) (by omega)).to ?_⟩
    rintro _ m3 ⟨eq, rfl⟩
    obtain rfl := eq.symm
    refine ⟨_, rfl, (isIllC (d := d + 1) (v := v) e6.1 hf).to ?_⟩
    rintro _ m4 ⟨eq, rfl⟩
    obtain rfl := eq.symm
    generalize hn : gnG (iE v f) (lE v 1) (g.1 (4 * t + a)) (g.1 (4 * f + a)) = n
    have go : AW ad E0 μX1_teach (d + 1 + 1) (fun r m' => r = none ∧ WT m' ∧ Fx (RS [2, ρ]) m0 m' ∧ HC b m' (upd (upd g.1 (4 * t + a) (g.1 (4 * t + a) + n)) (4 * f + a) (clS (g.1 (4 * f + a) + lE v 2 - 1)), g.2.1, (if cn = true then upd g.2.2.1 f (g.2.2.1 f + n) else g.2.2.1), g.2.2.2)) 63 [(0, .ref (ad 3)), (1, .ref (ad b)), (2, .int (nI f)), (3, .int (nI t)), (4, .int x4), (5, .int (nI a)), (6, .int (g.1 (4 * t + a))), (7, .int (g.1 (4 * f + a)))] [.int n] m := by
      refine g_X1_teach_63 hb.1 ((putC (d := d + 1) hb ht (a := a) (by omega)).to ?_)
      rintro _ m5 ⟨rfl, rfl⟩
      have l2 : (uI m (b + 1) (4 * t + a) (g.1 (4 * t + a) + n)).1 4 2 = lE v 2 := (Fx.at (SS.fu hb (Fx.rf (m := m)) (j := 1) (by decide)) (a := 4) (k := 2) (nRS (ρ := 43) (all_ne (L := [1, 41, 42, 43]) hρ.e1 rfl) rfl)).trans (e5 2 (by decide))
      have e22 : (2 : Int32).toNatClampNeg = 2 := rfl
      rw [e22, l2]
      refine ⟨rfl, (clampS (d := d + 1)).to ?_⟩
      rintro _ m6 ⟨eq, rfl⟩
      obtain rfl := eq.symm
      refine ⟨_, rfl, (putC (d := d + 1) hb hf (a := a) (by omega)).to ?_⟩
      rintro _ m7 ⟨rfl, rfl⟩
      have w7 : WT (uI (uI m (b + 1) (4 * t + a) (g.1 (4 * t + a) + n)) (b + 1) (4 * f + a) (clS (g.1 (4 * f + a) + lE v 2 - 1))) := hb.wu (hb.wu w (by decide)) (by decide)
      have f7 : Fx (RS [2, ρ]) m0 (uI (uI m (b + 1) (4 * t + a) (g.1 (4 * t + a) + n)) (b + 1) (4 * f + a) (clS (g.1 (4 * f + a) + lE v 2 - 1))) := hb.fu (hb.fu f0 (by decide)) (by decide)
      have H7 : HC b (uI (uI m (b + 1) (4 * t + a) (g.1 (4 * t + a) + n)) (b + 1) (4 * f + a) (clS (g.1 (4 * f + a) + lE v 2 - 1))) (upd (upd g.1 (4 * t + a) (g.1 (4 * t + a) + n)) (4 * f + a) (clS (g.1 (4 * f + a) + lE v 2 - 1)), g.2) := (h.sk).sk
      have z : ∀ (m8 : Wm) (g8 : GS), WT m8 → Fx (RS [2, ρ]) m0 m8 → HC b m8 g8 → AW ad E0 μX1_teach (d + 1 + 1) (fun r m' => r = none ∧ WT m' ∧ Fx (RS [2, ρ]) m0 m' ∧ HC b m' g8) 117 [(0, .ref (ad 3)), (5, .int (nI a)), (8, .int n)] [] m8 := fun m8 g8 w8 f8 H8 => by
        have hb3 : ¬ (b ≤ 3 ∧ 3 ≤ b + 4) := fun q => by
          have r3 := (hb.2 (3 - b) 3 (by omega)).1
          rw [show b + (3 - b) = 3 by omega] at r3
          have r4 : rg 3 3 = 41 := rfl
          rw [r4] at r3
          rcases hρ with z | z | z | z | z | z | z <;> omega
        exact g_X1_teach_117 ⟨fun _ => ⟨rfl, w8, f8, H8⟩, fun _ => ⟨rfl, (w8.n rfl).n rfl, (f8.i (show RS [2, ρ] 3 6 from rfl)).i (show RS [2, ρ] 3 7 from rfl), (H8.o hb3).o hb3⟩⟩
      refine ⟨rfl, fun q => ?_, fun q => ?_⟩
      · rw [if_neg (by rw [hc.mp q]; decide)]
        exact z _ _ w7 f7 H7
      · have hcn : cn = true := by
          cases e : cn with
          | true => rfl
          | false => exact absurd (hc.mpr e) q
        rw [if_pos hcn, nI_clamp (by omega), H7.2.2.1 f hf]
        exact ⟨nat_in hf (by decide), nat_in hf (by decide), z _ _ (hb.wu w7 (by decide)) (hb.fu f7 (by decide)) H7.ra⟩
    have e11 : (1 : Int32).toNatClampNeg = 1 := rfl
    rw [e11, e5 1 (by decide)]
    refine ⟨_, rfl, fun q => ?_, fun q => ?_⟩
    · have hi : ¬ iE v f = true := fun z => by rw [if_pos z] at q; exact absurd q (by decide)
      have en : (if g.1 (4 * f + a) - g.1 (4 * t + a) < lE v 1 then g.1 (4 * f + a) - g.1 (4 * t + a) else lE v 1) = n := by rw [← hn]; unfold gnG; rw [if_neg hi]
      rw [en]
      exact go
    · have hi : iE v f = true := by
        cases e : iE v f with
        | true => rfl
        | false => exact absurd (by rw [e]; rfl) q
      have en : (0 : Int32) = n := by rw [← hn]; unfold gnG; rw [if_pos hi]
      rw [en]
      exact go
  · unfold tchG
    rw [if_pos c]
    exact h
end STL
