/-! THE MODEL'S SIDE OF A GAME -/
section CHG
variable {f f' p p' h h' rt rt' : Nat → Int32}
theorem smF_ch {i : Nat} : ∀ n, (∀ k, i ≤ k → k < i + n → f k = f' k) → smF f i n = smF f' i n := by
  intro n
  induction n with
  | zero => intro _; rfl
  | succ n ih =>
    intro e
    show smF f i n + f (i + n) = smF f' i n + f' (i + n)
    rw [ih (fun k a b => e k a (by omega)), e (i + n) (by omega) (by omega)]
theorem mxF_ch {i : Nat} : ∀ n, (∀ k, i ≤ k → k < i + n → f k = f' k) → mxF f i n = mxF f' i n := by
  intro n
  induction n with
  | zero => intro _; rfl
  | succ n ih =>
    intro e
    show (if mxF f i n < f (i + n) then f (i + n) else mxF f i n) = (if mxF f' i n < f' (i + n) then f' (i + n) else mxF f' i n)
    rw [ih (fun k a b => e k a (by omega)), e (i + n) (by omega) (by omega)]
theorem mnF_ch {i : Nat} : ∀ n, (∀ k, i ≤ k → k < i + n → f k = f' k) → mnF f i n = mnF f' i n := by
  intro n
  induction n with
  | zero => intro _; rfl
  | succ n ih =>
    intro e
    show (if f (i + n) < mnF f i n then f (i + n) else mnF f i n) = (if f' (i + n) < mnF f' i n then f' (i + n) else mnF f' i n)
    rw [ih (fun k a b => e k a (by omega)), e (i + n) (by omega) (by omega)]
theorem ltF_ch {ar s : Nat} (ha : ar ≤ 4) (h1 : ∀ k, 4 * s ≤ k → k < 4 * s + 4 → f k = f' k) (h2 : p s = p' s) (h3 : h s = h' s) : ltF f p h ar s = ltF f' p' h' ar s := funext fun c => by
  unfold ltF
  rw [mnF_ch ar (fun k a b => h1 k a (by omega)), mxF_ch ar (fun k a b => h1 k a (by omega)), smF_ch ar (fun k a b => h1 k a (by omega)), h2, h3]
  by_cases q : 0 ≤ c - 97 ∧ c - 97 ≤ nI ar - 1
  · have z0 : (0 : Int32).toInt = 0 := rfl
    have z1 : (1 : Int32).toInt = 1 := rfl
    have q1 := z_le q.1
    have q2 := z_le q.2
    have q3 : (nI ar).toInt = ar := nI_toInt (by omega)
    have q4 := ti_sub (x := nI ar) (y := (1 : Int32)) (by omega)
    have q5 := tn (x := c - 97) (by omega)
    rw [if_pos q, if_pos q, h1 (4 * s + (c - 97).toNatClampNeg) (by omega) (by omega)]
  · rw [if_neg q, if_neg q]
theorem pwF_ch {ar s z : Nat} (ha : ar ≤ 4) (h0 : ∀ k, k < z → rt k = rt' k) (h1 : ∀ k, 4 * s ≤ k → k < 4 * s + 4 → f k = f' k) (h2 : p s = p' s) (h3 : h s = h' s) : pwF rt z f p h ar s = pwF rt' z f' p' h' ar s := by
  unfold pwF
  rw [smF_ch ar (fun k a b => h1 k a (by omega)), ltF_ch ha h1 h2 h3, prF_ch h0]
end CHG
def thG (th : Int32) (a b : Nat) (g : GS) : GS :=
  (g.1, g.2.1, g.2.2.1, (if th = 2 ∨ th = 3 then upd (if th = 1 ∨ th = 3 then upd g.2.2.2.1 a (g.2.2.2.1 a + 1) else g.2.2.2.1) b ((if th = 1 ∨ th = 3 then upd g.2.2.2.1 a (g.2.2.2.1 a + 1) else g.2.2.2.1) b + 1) else (if th = 1 ∨ th = 3 then upd g.2.2.2.1 a (g.2.2.2.1 a + 1) else g.2.2.2.1)), g.2.2.2.2)
def luG (x : Int32) : Int32 := x * (1103515245 : Int32) + (12345 : Int32)
def hdG (x : Int32) : Int32 := (((x.toUInt32 >>> ((16 : Int32).toUInt32 &&& Int32.toUInt32 31)).toInt32) - ((x.toUInt32 >>> ((16 : Int32).toUInt32 &&& Int32.toUInt32 31)).toInt32) / (100 : Int32) * (100 : Int32))
abbrev byG (lk : Bool) (v : EV) (th : Int32) : Prop := lk = true ∧ ¬ lE v 4 ≤ 0 ∧ th = 0
/-- who wins: by luck, or as it must be -/
def wonG (lk : Bool) (v : EV) (a b : Nat) (th : Int32) (g : GS) : Int32 := if byG lk v th then (if chG v g a b ≤ hdG (luG g.2.2.2.2) then 1 else 0) else wnG v g a b th
def drwG (lk : Bool) (v : EV) (th : Int32) (g : GS) : GS := if byG lk v th then (g.1, g.2.1, g.2.2.1, g.2.2.2.1, luG g.2.2.2.2) else g
def goG (lk : Bool) (v : EV) (a b : Nat) (th : Int32) (g : GS) : GS := stlG true v a b (wonG lk v a b th g) (thG th a b (drwG lk v th g))
section MOD
variable {ad : Nat → Nat} {d s f t a e : Nat} {m m' m0 : Wm} {g : GS} {v : EV} {S : List Nat}
theorem HM.sk {n : Nat} (h : HM n m g) {i : Nat} {x : Int32} : HM n (uI m 188 i x) (upd g.1 i x, g.2) := by
  obtain ⟨h1, h2, h3, h4, h5⟩ := h
  refine ⟨fun k hk => ?_, h2, h3, h4, h5⟩
  rw [uI_row]
  exact upd_eq (h1 k hk)
theorem HM.pt {n : Nat} (h : HM n m g) {i : Nat} {x : Int32} : HM n (uI m 190 i x) (g.1, upd g.2.1 i x, g.2.2) := by
  obtain ⟨h1, h2, h3, h4, h5⟩ := h
  refine ⟨h1, fun k hk => ?_, h3, h4, h5⟩
  rw [uI_row]
  exact upd_eq (h2 k hk)
theorem HM.ra {n : Nat} (h : HM n m g) {i : Nat} {x : Int32} : HM n (uI m 191 i x) (g.1, g.2.1, upd g.2.2.1 i x, g.2.2.2) := by
  obtain ⟨h1, h2, h3, h4, h5⟩ := h
  refine ⟨h1, h2, fun k hk => ?_, h4, h5⟩
  rw [uI_row]
  exact upd_eq (h3 k hk)
theorem HM.th {n : Nat} (h : HM n m g) {i : Nat} {x : Int32} : HM n (uI m 192 i x) (g.1, g.2.1, g.2.2.1, upd g.2.2.2.1 i x, g.2.2.2.2) := by
  obtain ⟨h1, h2, h3, h4, h5⟩ := h
  refine ⟨h1, h2, h3, fun k hk => ?_, h5⟩
  rw [uI_row]
  exact upd_eq (h4 k hk)
theorem HM.lu {n : Nat} (h : HM n m g) {x : Int32} : HM n (uI m 187 8 x) (g.1, g.2.1, g.2.2.1, g.2.2.2.1, x) := by
  obtain ⟨h1, h2, h3, h4, h5⟩ := h
  exact ⟨h1, h2, h3, h4, u_eq⟩
theorem m_ix {x y : Nat} : (4 : Int32) * nI x + nI y = nI (4 * x + y) := by rw [l_mul 4 4 rfl, nI_add]
theorem artM (h : HM (nE v) m g) (hE : EM m v) (hf : f < nE v) (ht : t < nE v) : Ct ad μX12_artOf d [.ref (ad 187), .int (nI f), .int (nI t)] m (fun r m' => m' = m ∧ r = some (.int (artG g.1 f t (aE v)))) := by
  have ha4 := hE.2.2.2.1
  have hn8 := hE.2.2.1
  have L : ∀ (k a : Nat) (bst w : Int32), a + k = aE v → AW ad E0 μX12_artOf d (fun r m' => m' = m ∧ r = some (.int (artL g.1 f t k a bst w))) 8 [(0, .ref (ad 187)), (1, .int (nI f)), (2, .int (nI t)), (3, .int bst), (4, .int w), (5, .int (nI a))] [] m := by
    intro k
    induction k with
    | zero =>
      intro a bst w hk
      exact g_X12_artOf_8 ⟨fun _ => ⟨rfl, rfl⟩, fun c => absurd (by rw [hE.2.1]; exact (nI_leI (by omega) (by omega)).mpr (by omega)) c⟩
    | succ k ih =>
      intro a bst w hk
      have e : artL g.1 f t (k + 1) a bst w = if g.1 (4 * f + a) - g.1 (4 * t + a) ≤ w then artL g.1 f t k (a + 1) bst w else artL g.1 f t k (a + 1) (nI a) (g.1 (4 * f + a) - g.1 (4 * t + a)) := rfl
      rw [e]
      refine g_X12_artOf_8 ⟨fun c => absurd (by rw [hE.2.1] at c; exact (nI_leI (by omega) (by omega)).mp c) (by omega), fun _ => ?_⟩
      rw [m_ix, m_ix, nI_1, nI_clamp (by omega), nI_clamp (by omega), h.1 (4 * f + a) (by omega), h.1 (4 * t + a) (by omega)]
      refine ⟨nat_in (by omega) (by decide), nat_in (by omega) (by decide), fun c => ?_, fun c => ?_⟩
      · rw [if_neg (fun q => by have := z_lt c; have := z_le q; omega)]; exact ih _ _ _ (by omega)
      · rw [if_pos ((fa_le _ _).mpr (z_nlt c))]; exact ih _ _ _ (by omega)
  exact v_X12_artOf (L (aE v) 0 (-1) 0 (by omega))
theorem gainM (h : HM (nE v) m g) (hE : EM m v) (hf : f < nE v) (ht : t < nE v) {a : Nat} (ha : a < 4) : Ct ad μX12_gainOf (d + 1) [.ref (ad 187), .int (nI f), .int (nI t), .int (nI a)] m (fun r m' => m' = m ∧ r = some (.int (gnG (iE v f) (lE v 1) (g.1 (4 * t + a)) (g.1 (4 * f + a))))) := by
  have e11 : (1 : Int32).toNatClampNeg = 1 := rfl
  have hn8 := hE.2.2.1
  refine v_X12_gainOf ?_
  rw [m_ix, m_ix, nI_clamp (by omega), nI_clamp (by omega), nI_clamp (by omega), h.1 (4 * f + a) (by omega), h.1 (4 * t + a) (by omega), e11, hE.2.2.2.2.1 1 (by decide), hE.2.2.2.2.2.1 f hf]
  refine ⟨nat_in (by omega) (by decide), fun c => ⟨nat_in (by omega) (by decide), nat_in (by omega) (by decide), rfl, ?_⟩, fun c => ⟨rfl, ?_⟩⟩
  · have hi : ¬ iE v f = true := fun z => by rw [if_pos z] at c; exact absurd c (by decide)
    unfold gnG
    rw [if_neg hi]
  · have hi : iE v f = true := by
      cases q : iE v f with
      | true => rfl
      | false => exact absurd (by rw [q]; rfl) c
    unfold gnG
    rw [if_pos hi]
set_option maxHeartbeats 1000000 in
theorem teachM (w : WT m) (f0 : Fx (RS [24]) m0 m) (h : HM (nE v) m g) (hE : EM m v) (hf : f < nE v) (ht : t < nE v) (hft : f ≠ t) : Ct ad μX12_teach (d + 2) [.ref (ad 187), .int (nI f), .int (nI t)] m (fun r m' => r = none ∧ WT m' ∧ Fx (RS [24]) m0 m' ∧ HM (nE v) m' (tchG true v f t g)) := by
  have e22 : (2 : Int32).toNatClampNeg = 2 := rfl
  have ha4 := hE.2.2.2.1
  have hn8 := hE.2.2.1
  refine v_X12_teach (d := d + 1) ((artM (d := d + 1) h hE hf ht).to ?_)
  rintro _ m1 ⟨eq, rfl⟩
  obtain rfl := eq.symm
  refine ⟨_, rfl, fun c => ?_, fun c => ⟨rfl, w, f0, ?_⟩⟩
  · rcases artG_of (s := g.1) (f := f) (t := t) (n := aE v) with q | ⟨a, ha, q⟩
    · exact absurd q c
    have G : tchG true v f t g = (upd (upd g.1 (4 * t + a) (g.1 (4 * t + a) + gnG (iE v f) (lE v 1) (g.1 (4 * t + a)) (g.1 (4 * f + a)))) (4 * f + a) (clS (g.1 (4 * f + a) + lE v 2 - 1)), g.2.1, upd g.2.2.1 f (g.2.2.1 f + gnG (iE v f) (lE v 1) (g.1 (4 * t + a)) (g.1 (4 * f + a))), g.2.2.2) := by
      unfold tchG gainG
      rw [if_neg c, q, nI_clamp (by omega), if_pos rfl]
    rw [G, q]
    refine (gainM (d := d) h hE hf ht (a := a) (by omega)).to ?_
    rintro _ m2 ⟨eq, rfl⟩
    obtain rfl := eq.symm
    generalize gnG (iE v f) (lE v 1) (g.1 (4 * t + a)) (g.1 (4 * f + a)) = n
    refine ⟨_, rfl, ?_⟩
    rw [m_ix, m_ix, nI_clamp (by omega), nI_clamp (by omega), nI_clamp (by omega), h.1 (4 * t + a) (by omega), e22]
    have r1 : (uI m 188 (4 * t + a) (g.1 (4 * t + a) + n)).1 191 f = g.2.2.1 f := h.2.2.1 f hf
    rw [r1]
    have r2 : (uI (uI m 188 (4 * t + a) (g.1 (4 * t + a) + n)) 191 f (g.2.2.1 f + n)).1 188 (4 * f + a) = g.1 (4 * f + a) := (u_ne (by omega)).trans ((u_ne (by omega)).trans (h.1 (4 * f + a) (by omega)))
    have r3 : (uI (uI m 188 (4 * t + a) (g.1 (4 * t + a) + n)) 191 f (g.2.2.1 f + n)).1 193 2 = lE v 2 := hE.2.2.2.2.1 2 (by decide)
    rw [r2, r3]
    have V1 : vp_in (nI (4 * t + a)) 32 := nat_in (by omega) (by decide)
    have V2 : vp_in (nI (4 * f + a)) 32 := nat_in (by omega) (by decide)
    have V3 : vp_in (nI f) 8 := nat_in (by omega) (by decide)
    exact ⟨V1, V1, V3, V3, V2, V2, rfl, ((w.n rfl).n rfl).n rfl, ((f0.i rfl).i rfl).i rfl, ((h.sk).ra).sk⟩
  · unfold tchG
    rw [if_pos c]
    exact h
theorem hasM_3 {th y : Int32} (hy : y = 0 ∨ y = 1) (ht : th = 0 ∨ th = 1 ∨ th = 2 ∨ th = 3) : Ct ad μX12_has d [.int th, .int y] m (fun r m' => m' = m ∧ r = some (.int (if (y = 0 ∧ (th = 1 ∨ th = 3)) ∨ (y = 1 ∧ (th = 2 ∨ th = 3)) then 1 else 0))) := by
  refine (hasM_ok).to ?_
  rintro _ m1 ⟨eq, rfl⟩
  refine ⟨eq, congrArg (fun z => some (Value.int z)) ?_⟩
  rcases hy with rfl | rfl <;> rcases ht with rfl | rfl | rfl | rfl <;> decide
set_option maxHeartbeats 1000000 in
theorem settleM (w : WT m) (h : HM (nE v) m g) (hE : EM m v) (ha : a < nE v) (he : e < nE v) (hae : a ≠ e) {th x4 : Int32} (ht : th = 0 ∨ th = 1 ∨ th = 2 ∨ th = 3) :
    Ct ad μX12_settle (d + 3) [.ref (ad 187), .int (nI a), .int (nI e), .int th, .int x4] m (fun r m' => r = none ∧ WT m' ∧ Fx (RS [24]) m m' ∧ HM (nE v) m' (stlG true v a e x4 (thG th a e g))) := by
  have e00 : (0 : Int32).toNatClampNeg = 0 := rfl
  have hn8 := hE.2.2.1
  have lw0 : ∀ m1, Fx (RS [24]) m m1 → m1.1 193 0 = lE v 0 := fun m1 f1 => (f1.at (nRS (ρ := 47) rfl rfl)).trans (hE.2.2.2.2.1 0 (by decide))
  have V1 : vp_in (nI a) 8 := nat_in (by omega) (by decide)
  have V2 : vp_in (nI e) 8 := nat_in (by omega) (by decide)
  have WL : ∀ (wi lo : Nat) (g1 : GS) (m1 : Wm), wi < nE v → lo < nE v → wi ≠ lo → WT m1 → Fx (RS [24]) m m1 → HM (nE v) m1 g1 → AW ad E0 μX12_settle (d + 2 + 1) (fun r m' => r = none ∧ WT m' ∧ Fx (RS [24]) m m' ∧ HM (nE v) m' (stl2 true v wi lo (stl1 true v wi lo (g1.1, upd g1.2.1 wi (g1.2.1 wi + 3), g1.2.2)))) 85 [(0, .ref (ad 187)), (5, .int (nI wi))] [.int (nI lo)] m1 := by
    intro wi lo g1 m1 hwi hlo hwl w1 f1 H1
    have B : ∀ (g2 : GS) (m2 : Wm), WT m2 → Fx (RS [24]) m m2 → HM (nE v) m2 g2 → AW ad E0 μX12_settle (d + 2 + 1) (fun r m' => r = none ∧ WT m' ∧ Fx (RS [24]) m m' ∧ HM (nE v) m' (stl2 true v wi lo g2)) 125 [(0, .ref (ad 187)), (5, .int (nI wi)), (6, .int (nI lo))] [] m2 := by
      intro g2 m2 w2 f2 H2
      have T : lE v 0 = 1 ∨ lE v 0 = 2 → Ct ad μX12_teach (d + 2) [.ref (ad 187), .int (nI lo), .int (nI wi)] m2 (fun r m1 => r = none ∧ WT m1 ∧ Fx (RS [24]) m m1 ∧ HM (nE v) m1 (stl2 true v wi lo g2)) := fun q => by
        refine (teachM (d := d) w2 f2 H2 (hE.fx f2 rfl) hlo hwi (Ne.symm hwl)).to ?_
        rintro _ m3 ⟨rfl, w3, f3, H3⟩
        refine ⟨rfl, w3, f3, ?_⟩
        unfold stl2
        rw [if_pos q]
        exact H3
      refine g_X12_settle_125 ?_
      rw [e00, lw0 m2 f2]
      refine ⟨fun q => (T (Or.inl q)).to (fun r m1 z => ⟨z.1, rfl, z.2⟩), fun n1 => ⟨fun n2 => ⟨rfl, w2, f2, ?_⟩, fun q => (T (Or.inr q)).to (fun r m1 z => ⟨z.1, rfl, z.2⟩)⟩⟩
      unfold stl2
      rw [if_neg (fun z => z.elim n1 n2)]
      exact H2
    have H3 : HM (nE v) (uI m1 190 wi (g1.2.1 wi + 3)) (g1.1, upd g1.2.1 wi (g1.2.1 wi + 3), g1.2.2) := H1.pt
    have w3 : WT (uI m1 190 wi (g1.2.1 wi + 3)) := w1.n rfl
    have f3 : Fx (RS [24]) m (uI m1 190 wi (g1.2.1 wi + 3)) := f1.i rfl
    generalize (g1.1, upd g1.2.1 wi (g1.2.1 wi + 3), g1.2.2) = g3 at H3 ⊢
    have T : lE v 0 = 0 ∨ lE v 0 = 2 → Ct ad μX12_teach (d + 2) [.ref (ad 187), .int (nI wi), .int (nI lo)] (uI m1 190 wi (g1.2.1 wi + 3)) (fun r m2 => r = none ∧ AW ad E0 μX12_settle (d + 2 + 1) (fun r m' => r = none ∧ WT m' ∧ Fx (RS [24]) m m' ∧ HM (nE v) m' (stl2 true v wi lo (stl1 true v wi lo g3))) 125 [(0, .ref (ad 187)), (5, .int (nI wi)), (6, .int (nI lo))] [] m2) := fun q => by
      refine (teachM (d := d) w3 f3 H3 (hE.fx f3 rfl) hwi hlo hwl).to ?_
      rintro _ m4 ⟨rfl, w4, f4, H4⟩
      refine ⟨rfl, ?_⟩
      have es : stl1 true v wi lo g3 = tchG true v wi lo g3 := if_pos q
      rw [es]
      exact B _ _ w4 f4 H4
    refine g_X12_settle_85 ?_
    rw [nI_clamp (by omega), H1.2.1 wi hwi, e00, lw0 _ f3]
    refine ⟨nat_in (by omega) (by decide), nat_in (by omega) (by decide), fun q => T (Or.inl q), fun n0 => ⟨fun n2 => ?_, fun q => T (Or.inr q)⟩⟩
    have es : stl1 true v wi lo g3 = g3 := if_neg (fun z => z.elim n0 n2)
    rw [es]
    exact B _ _ w3 f3 H3
  have A : ∀ (g1 : GS) (m1 : Wm), WT m1 → Fx (RS [24]) m m1 → HM (nE v) m1 g1 → AW ad E0 μX12_settle (d + 2 + 1) (fun r m' => r = none ∧ WT m' ∧ Fx (RS [24]) m m' ∧ HM (nE v) m' (stlG true v a e x4 g1)) 36 [(0, .ref (ad 187)), (1, .int (nI a)), (2, .int (nI e)), (4, .int x4)] [] m1 := by
    intro g1 m1 w1 f1 H1
    refine g_X12_settle_36 ⟨fun n2 => ⟨fun n0 => ⟨fun _ => ?_, fun q => absurd q n0⟩, fun q0 => ⟨fun q => absurd q0 q, fun _ => ?_⟩⟩, fun q2 => ?_⟩
    · have := WL e a g1 m1 he ha (Ne.symm hae) w1 f1 H1
      unfold stlG ptG
      rw [if_neg n2, if_neg n0, if_neg n0, if_pos rfl, if_neg n2]
      exact this
    · have := WL a e g1 m1 ha he hae w1 f1 H1
      unfold stlG ptG
      rw [if_neg n2, if_pos q0, if_pos q0, if_pos rfl, if_neg n2]
      exact this
    · rw [nI_clamp (by omega), nI_clamp (by omega), H1.2.1 a ha]
      have e1 : (uI m1 190 a (g1.2.1 a + 1)).1 190 e = upd g1.2.1 a (g1.2.1 a + 1) e := H1.pt.2.1 e he
      rw [e1]
      refine ⟨V1, V1, V2, V2, rfl, (w1.n rfl).n rfl, (f1.i rfl).i rfl, ?_⟩
      unfold stlG ptG
      rw [if_pos q2, if_pos rfl, if_pos q2]
      exact (H1.pt).pt
  have M : ∀ (g1 : GS) (m1 : Wm), WT m1 → Fx (RS [24]) m m1 → HM (nE v) m1 g1 → AW ad E0 μX12_settle (d + 2 + 1) (fun r m' => r = none ∧ WT m' ∧ Fx (RS [24]) m m' ∧ HM (nE v) m' (stlG true v a e x4 (g1.1, g1.2.1, g1.2.2.1, (if th = 2 ∨ th = 3 then upd g1.2.2.2.1 e (g1.2.2.2.1 e + 1) else g1.2.2.2.1), g1.2.2.2.2))) 18 [(0, .ref (ad 187)), (1, .int (nI a)), (2, .int (nI e)), (3, .int th), (4, .int x4)] [] m1 := by
    intro g1 m1 w1 f1 H1
    refine g_X12_settle_18 ((hasM_3 (y := 1) (Or.inr rfl) ht).to ?_)
    rintro _ m2 ⟨eq, rfl⟩
    obtain rfl := eq.symm
    refine ⟨_, rfl, fun c => ?_, fun c => ?_⟩
    · have n2 : ¬ (th = 2 ∨ th = 3) := fun z => by rw [if_pos (Or.inr ⟨rfl, z⟩)] at c; exact absurd c (by decide)
      rw [if_neg n2]
      exact A g1 m1 w1 f1 H1
    · have n2 : th = 2 ∨ th = 3 := by
        by_cases z : th = 2 ∨ th = 3
        · exact z
        · rw [if_neg (fun q => q.elim (fun q => absurd q.1 (by decide)) (fun q => z q.2))] at c; exact absurd rfl c
      rw [if_pos n2, nI_clamp (by omega), H1.2.2.2.1 e he]
      exact ⟨V2, V2, A _ _ (w1.n rfl) (f1.i rfl) H1.th⟩
  refine v_X12_settle ((hasM_3 (y := 0) (Or.inl rfl) ht).to ?_)
  rintro _ m2 ⟨eq, rfl⟩
  obtain rfl := eq.symm
  refine ⟨_, rfl, fun c => ?_, fun c => ?_⟩
  · have n2 : ¬ (th = 1 ∨ th = 3) := fun z => by rw [if_pos (Or.inl ⟨rfl, z⟩)] at c; exact absurd c (by decide)
    have := M g m w Fx.rf h
    unfold thG
    rw [if_neg n2]
    exact this
  · have n2 : th = 1 ∨ th = 3 := by
      by_cases z : th = 1 ∨ th = 3
      · exact z
      · rw [if_neg (fun q => q.elim (fun q => z q.2) (fun q => absurd q.1 (by decide)))] at c; exact absurd rfl c
    have := M _ _ (w.n (a := 192) (k := a) (v := g.2.2.2.1 a + 1) rfl) (Fx.rf.i rfl) h.th
    unfold thG
    rw [if_pos n2, nI_clamp (by omega), h.2.2.2.1 a ha]
    exact ⟨V1, V1, this⟩
end MOD
/-! WHO WINS, THE CHANCE, A GAME: the model; a game of the class -/
section MOG
variable {ad : Nat → Nat} {d s a e : Nat} {m m' m0 : Wm} {g : GS} {v : EV} {S : List Nat}
theorem powerM (w : WT m) (h : HM (nE v) m g) (hE : EM m v) (hs : s < nE v) : Ct ad μX12_power (d + 168) [.ref (ad 187), .int (nI s)] m (fun r m' => WT m' ∧ Fx (RS [22, 28]) m m' ∧ r = some (.int (pwG v g s))) := by
  have hn8 := hE.2.2.1
  refine (power_ok (d := d) w (by omega)).to ?_
  rintro r m1 ⟨w1, f1, rfl⟩
  refine ⟨w1, f1, ?_⟩
  obtain ⟨e1, e2, e3, e4, e5, e6, e7, e8, e9⟩ := hE
  have : pwM m s = pwG v g s := by
    unfold pwM pwG
    rw [e7, e2, nI_clamp (by omega), nI_clamp (by omega)]
    exact pwF_ch e4 e9 (fun k a b => h.1 k (by omega)) (h.2.1 s hs) (h.2.2.1 s hs)
  rw [this]
theorem winnerM (w : WT m) (h : HM (nE v) m g) (hE : EM m v) (ha : a < nE v) (he : e < nE v) {th : Int32} : Ct ad μX12_winner (d + 169) [.ref (ad 187), .int (nI a), .int (nI e), .int th] m (fun r m' => WT m' ∧ Fx (RS [22, 28]) m m' ∧ r = some (.int (wnG v g a e th))) := by
  have e33 : (3 : Int32).toNatClampNeg = 3 := rfl
  refine v_X12_winner (d := d + 168) ⟨fun n1 => ⟨fun n2 => ⟨fun n3 => (powerM (d := d) w h hE ha).to ?_, fun q => ⟨w, Fx.rf, ?_⟩⟩, fun q => ⟨w, Fx.rf, ?_⟩⟩, fun q => ⟨w, Fx.rf, ?_⟩⟩
  · rintro _ m1 ⟨w1, f1, rfl⟩
    have H1 := h.fx f1 rfl rfl
    have E1 := hE.fx f1 rfl
    refine ⟨_, rfl, (powerM (d := d) w1 H1 E1 he).to ?_⟩
    rintro _ m2 ⟨w2, f2, rfl⟩
    refine ⟨_, rfl, ?_⟩
    have f12 : Fx (RS [22, 28]) m m2 := f1.tr f2 (fun _ _ h => h)
    have hwn : wnG v g a e th = rsG v (pwG v g a - pwG v g e) := by
      unfold wnG
      rw [if_neg n1, if_neg n2, if_neg n3]
    rw [e33, (E1.fx f2 rfl).2.2.2.2.1 3 (by decide), hwn]
    unfold rsG
    exact ⟨fun c => ⟨fun c2 => ⟨w2, f12, by rw [if_pos c, if_pos c2]⟩, fun c2 => ⟨w2, f12, by rw [if_pos c, if_neg c2]⟩⟩, fun c => ⟨w2, f12, by rw [if_neg c]⟩⟩
  · unfold wnG; rw [if_neg n1, if_neg n2, if_pos q]
  · unfold wnG; rw [if_neg n1, if_pos q]
  · unfold wnG; rw [if_pos q]
theorem chanceM (w : WT m) (h : HM (nE v) m g) (hE : EM m v) (ha : a < nE v) (he : e < nE v) : Ct ad μX12_chanceOf (d + 169) [.ref (ad 187), .int (nI a), .int (nI e)] m (fun r m' => WT m' ∧ Fx (RS [22, 28]) m m' ∧ r = some (.int (chG v g a e))) := by
  have e44 : (4 : Int32).toNatClampNeg = 4 := rfl
  refine v_X12_chanceOf (d := d + 168) ((powerM (d := d) w h hE ha).to ?_)
  rintro _ m1 ⟨w1, f1, rfl⟩
  have H1 := h.fx f1 rfl rfl
  have E1 := hE.fx f1 rfl
  refine ⟨_, rfl, (powerM (d := d) w1 H1 E1 he).to ?_⟩
  rintro _ m2 ⟨w2, f2, rfl⟩
  refine ⟨_, rfl, w2, f1.tr f2 (fun _ _ h => h), ?_⟩
  rw [e44, hE.2.2.2.2.1 4 (by decide)]
  rfl
theorem chG_lu {x : Int32} : chG v (g.1, g.2.1, g.2.2.1, g.2.2.2.1, x) a e = chG v g a e := by
  unfold chG pwG
  dsimp only
theorem goGameM (w : WT m) (h : HM (nE v) m g) (hE : EM m v) (ha : a < nE v) (he : e < nE v) (hae : a ≠ e) {th x4 : Int32} (ht : th = 0 ∨ th = 1 ∨ th = 2 ∨ th = 3) {lk : Bool} (hl : x4 = 0 ↔ lk = false) :
    Ct ad μX12_goGame (d + 170) [.ref (ad 187), .int (nI a), .int (nI e), .int th, .int x4] m (fun r m' => WT m' ∧ Fx (RS [22, 24, 28, 49]) m m' ∧ r = some (.int (wonG lk v a e th g)) ∧ HM (nE v) m' (goG lk v a e th g)) := by
  have e44 : (4 : Int32).toNatClampNeg = 4 := rfl
  have fin : ∀ (x : Int32) (g1 : GS) (m1 : Wm), WT m1 → Fx (RS [22, 24, 28, 49]) m m1 → HM (nE v) m1 g1 → AW ad E0 μX12_goGame (d + 169 + 1) (fun r m' => WT m' ∧ Fx (RS [22, 24, 28, 49]) m m' ∧ r = some (.int x) ∧ HM (nE v) m' (stlG true v a e x (thG th a e g1))) 46 [(0, .ref (ad 187)), (1, .int (nI a)), (2, .int (nI e)), (3, .int th)] [.int x] m1 := by
    intro x g1 m1 w1 f1 H1
    refine g_X12_goGame_46 ((settleM (d := d + 166) w1 H1 (hE.fx f1 rfl) ha he hae ht).to ?_)
    rintro _ m2 ⟨rfl, w2, f2, H2⟩
    exact ⟨rfl, w2, f1.tr f2 (RS_sub rfl), rfl, H2⟩
  have plain : ¬ byG lk v th → Ct ad μX12_winner (d + 169) [.ref (ad 187), .int (nI a), .int (nI e), .int th] m (fun r m1 => ∃ x : Int32, r = some (.int x) ∧ AW ad E0 μX12_goGame (d + 169 + 1) (fun r m' => WT m' ∧ Fx (RS [22, 24, 28, 49]) m m' ∧ r = some (.int (wonG lk v a e th g)) ∧ HM (nE v) m' (goG lk v a e th g)) 46 [(0, .ref (ad 187)), (1, .int (nI a)), (2, .int (nI e)), (3, .int th)] [.int x] m1) := fun hn => by
    refine (winnerM (d := d) w h hE ha he).to ?_
    rintro _ m1 ⟨w1, f1, rfl⟩
    refine ⟨_, rfl, ?_⟩
    have := fin (wnG v g a e th) g m1 w1 (Fx.tr Fx.rf f1 (RS_sub rfl)) (h.fx f1 rfl rfl)
    unfold goG wonG drwG
    rw [if_neg hn, if_neg hn]
    exact this
  refine v_X12_goGame (d := d + 169) ⟨fun q => plain (fun z => by have := hl.mp q; rw [this] at z; exact absurd z.1 (by decide)), fun q => ?_⟩
  rw [e44, hE.2.2.2.2.1 4 (by decide)]
  refine ⟨fun c => plain (fun z => z.2.1 c), fun c => ⟨fun n0 => plain (fun z => n0 z.2.2), fun q0 => ?_⟩⟩
  have hlk : lk = true := by
    cases z : lk with
    | true => rfl
    | false => exact absurd (hl.mpr z) q
  have hby : byG lk v th := ⟨hlk, c, q0⟩
  refine v_X12_drawHundred ?_
  have el : (uI m 187 8 (m.1 187 8 * 1103515245 + 12345)).1 187 8 = luG g.2.2.2.2 := by
    rw [u_eq, h.2.2.2.2]
    rfl
  rw [el]
  have w1 : WT (uI m 187 8 (m.1 187 8 * 1103515245 + 12345)) := w.n rfl
  have f1 : Fx (RS [22, 24, 28, 49]) m (uI m 187 8 (m.1 187 8 * 1103515245 + 12345)) := Fx.rf.i rfl
  have H1 : HM (nE v) (uI m 187 8 (m.1 187 8 * 1103515245 + 12345)) (g.1, g.2.1, g.2.2.1, g.2.2.2.1, luG g.2.2.2.2) := ⟨h.1, h.2.1, h.2.2.1, h.2.2.2.1, el⟩
  refine ⟨_, rfl, (chanceM (d := d) w1 H1 (hE.fx f1 rfl) ha he).to ?_⟩
  rintro _ m2 ⟨w2, f2, rfl⟩
  have f12 : Fx (RS [22, 24, 28, 49]) m m2 := f1.tr f2 (RS_sub rfl)
  have H2 := H1.fx f2 rfl rfl
  have hc : chG v (g.1, g.2.1, g.2.2.1, g.2.2.2.1, luG g.2.2.2.2) a e = chG v g a e := chG_lu
  rw [hc]
  unfold goG wonG drwG
  rw [if_pos hby, if_pos hby]
  refine ⟨_, rfl, fun c2 => ?_, fun c2 => ?_⟩
  · rw [if_pos (show chG v g a e ≤ hdG (luG g.2.2.2.2) from c2)]
    exact fin 1 _ m2 w2 f12 H2
  · rw [if_neg (show ¬ chG v g a e ≤ hdG (luG g.2.2.2.2) from c2)]
    exact fin 0 _ m2 w2 f12 H2
end MOG
section PLC
variable {ad : Nat → Nat} {d a e b0 b1 ρ0 ρ1 : Nat} {m m' m0 : Wm} {g : GS} {v : EV} {S : List Nat}
theorem copyC (w : WT m) (hb0 : SS b0 ρ0) (hb1 : SS b1 ρ1) (hd : b1 + 4 < b0 ∨ b0 + 4 < b1) (h : HC b1 m g) : Ct ad μX8_copy (d + 1) [.ref (ad b0), .ref (ad b1)] m (fun r m' => r = none ∧ WT m' ∧ Fx (RS [ρ0]) m m' ∧ HC b0 m' g) := by
  refine (e_copy w hb0 hb1 hd).to ?_
  rintro r m1 ⟨w1, f1, rfl, k1, k2, k3⟩
  exact ⟨rfl, w1, f1, fun k hk => (k1 k hk).trans (h.1 k hk), fun k hk => (k2 2 k (by decide) (by decide) hk).trans (h.2.1 k hk), fun k hk => (k2 3 k (by decide) (by decide) hk).trans (h.2.2.1 k hk), fun k hk => (k2 4 k (by decide) (by decide) hk).trans (h.2.2.2.1 k hk), k3.trans h.2.2.2.2⟩
theorem and_3 {th c : Int32} (hc : c = 1 ∨ c = 2) (ht : th = 0 ∨ th = 1 ∨ th = 2 ∨ th = 3) : (th &&& c) = 0 ↔ ¬ ((c = 1 ∧ (th = 1 ∨ th = 3)) ∨ (c = 2 ∧ (th = 2 ∨ th = 3))) := by
  rcases hc with rfl | rfl <;> rcases ht with rfl | rfl | rfl | rfl <;> decide
theorem drawnC (w : WT m) (h : HC 21 m g) (hE : EC m v) (ha : a < 8) (he : e < 8) : Ct ad μX1_drawnResult (d + 5) [.ref (ad 3), .ref (ad 21), .int (nI a), .int (nI e)] m (fun r m' => WT m' ∧ Fx (RS [4, 14]) m m' ∧ r = some (.int (if chG v g a e ≤ hdG (luG g.2.2.2.2) then 1 else 0)) ∧ HC 21 m' (g.1, g.2.1, g.2.2.1, g.2.2.2.1, luG g.2.2.2.2)) := by
  have hG : GR 4 := Or.inr (Or.inl rfl)
  refine v_X1_drawnResult (d := d + 4) SS_21.1 ((chanceC (d := d) SS_21 hG w h hE ha he).to ?_)
  rintro _ m1 ⟨w1, f1, rfl⟩
  have H1 := h.fx SS_21 f1 rfl
  have el : (uI m1 21 4 (m1.1 21 4 * 1103515245 + 12345)).1 21 4 = luG g.2.2.2.2 := by
    rw [u_eq, H1.2.2.2.2]
    rfl
  rw [el]
  have w2 : WT (uI m1 21 4 (m1.1 21 4 * 1103515245 + 12345)) := w1.n rfl
  have f2 : Fx (RS [4, 14]) m (uI m1 21 4 (m1.1 21 4 * 1103515245 + 12345)) := (Fx.tr Fx.rf f1 (RS_sub rfl)).i rfl
  have H2 : HC 21 (uI m1 21 4 (m1.1 21 4 * 1103515245 + 12345)) (g.1, g.2.1, g.2.2.1, g.2.2.2.1, luG g.2.2.2.2) := ⟨H1.1, H1.2.1, H1.2.2.1, H1.2.2.2.1, el⟩
  exact ⟨_, rfl, fun c => ⟨w2, f2, (congrArg (fun z => some (Value.int z)) (if_pos (show chG v g a e ≤ hdG (luG g.2.2.2.2) from c))).symm, H2⟩, fun c => ⟨w2, f2, (congrArg (fun z => some (Value.int z)) (if_neg (show ¬ chG v g a e ≤ hdG (luG g.2.2.2.2) from c))).symm, H2⟩⟩
/-- playNow behind what is saved -/
theorem playNow32 (w : WT m) (h : HC 21 m g) (hE : EC m v) (ha : a < 8) (he : e < 8) (hae : a ≠ e) {th s0 : Int32} (ht : th = 0 ∨ th = 1 ∨ th = 2 ∨ th = 3) (hs : s0 = 0 ↔ ¬ byG true v th) :
    AW ad E0 μX11_playNow (d + 6) (fun r m' => WT m' ∧ Fx (RS [2, 4, 14]) m m' ∧ r = some (.int (wonG true v a e th g)) ∧ HC 21 m' (goG true v a e th g)) 32 [(0, .ref (ad 0)), (1, .int (nI a)), (2, .int (nI e)), (3, .int th)] [.int s0] m := by
  have hG : GR 4 := Or.inr (Or.inl rfl)
  have V1 : vp_in (nI a) 8 := nat_in ha (by decide)
  have V2 : vp_in (nI e) 8 := nat_in he (by decide)
  have fin : ∀ (x : Int32) (g1 : GS) (m1 : Wm), WT m1 → Fx (RS [2, 4, 14]) m m1 → HC 21 m1 g1 → AW ad E0 μX11_playNow (d + 6) (fun r m' => WT m' ∧ Fx (RS [2, 4, 14]) m m' ∧ r = some (.int x) ∧ HC 21 m' (stlG true v a e x (thG th a e g1))) 69 [(0, .ref (ad 0)), (1, .int (nI a)), (2, .int (nI e)), (3, .int th)] [.int x] m1 := by
    intro x g1 m1 w1 f1 H1
    have S : ∀ (g2 : GS) (m2 : Wm), WT m2 → Fx (RS [2, 4, 14]) m m2 → HC 21 m2 g2 → AW ad E0 μX11_playNow (d + 6) (fun r m' => WT m' ∧ Fx (RS [2, 4, 14]) m m' ∧ r = some (.int x) ∧ HC 21 m' (stlG true v a e x g2)) 109 [(0, .ref (ad 0)), (1, .int (nI a)), (2, .int (nI e)), (5, .int x)] [] m2 := by
      intro g2 m2 w2 f2 H2
      refine g_X11_playNow_109 (d := d + 5) ((settleC (d := d + 2) (cn := true) SS_21 hG w2 H2 (hE.fx f2 rfl) ha he hae (by decide)).to ?_)
      rintro _ m3 ⟨rfl, w3, f3, H3⟩
      exact ⟨rfl, w3, f2.tr f3 (RS_sub rfl), rfl, H3⟩
    have T : ∀ (g2 : GS) (m2 : Wm), WT m2 → Fx (RS [2, 4, 14]) m m2 → HC 21 m2 g2 → AW ad E0 μX11_playNow (d + 6) (fun r m' => WT m' ∧ Fx (RS [2, 4, 14]) m m' ∧ r = some (.int x) ∧ HC 21 m' (stlG true v a e x (g2.1, g2.2.1, g2.2.2.1, (if th = 2 ∨ th = 3 then upd g2.2.2.2.1 e (g2.2.2.2.1 e + 1) else g2.2.2.2.1), g2.2.2.2.2))) 90 [(0, .ref (ad 0)), (1, .int (nI a)), (2, .int (nI e)), (3, .int th), (5, .int x)] [] m2 := by
      intro g2 m2 w2 f2 H2
      refine g_X11_playNow_90 (d := d + 5) ⟨fun c => ?_, fun c => ?_⟩
      · have n := (and_3 (Or.inr rfl) ht).mp c
        rw [if_neg (fun z => n (Or.inr ⟨rfl, z⟩))]
        exact S _ _ w2 f2 H2
      · have n : th = 2 ∨ th = 3 := by
          by_cases z : th = 2 ∨ th = 3
          · exact z
          · exact absurd ((and_3 (Or.inr rfl) ht).mpr (fun q => q.elim (fun q => absurd q.1 (by decide)) (fun q => z q.2))) c
        rw [if_pos n, nI_clamp (by omega), H2.2.2.2.1 e he]
        exact ⟨V2, V2, S _ _ (w2.n rfl) (f2.i rfl) H2.th⟩
    refine g_X11_playNow_69 (d := d + 5) ⟨fun c => ?_, fun c => ?_⟩
    · have n := (and_3 (Or.inl rfl) ht).mp c
      have := T _ _ w1 f1 H1
      unfold thG
      rw [if_neg (fun z => n (Or.inl ⟨rfl, z⟩))]
      exact this
    · have n : th = 1 ∨ th = 3 := by
        by_cases z : th = 1 ∨ th = 3
        · exact z
        · exact absurd ((and_3 (Or.inl rfl) ht).mpr (fun q => q.elim (fun q => z q.2) (fun q => absurd q.1 (by decide)))) c
      have := T _ _ (w1.n (a := 25) (k := a) (v := g1.2.2.2.1 a + 1) rfl) (f1.i rfl) H1.th
      unfold thG
      rw [if_pos n, nI_clamp (by omega), H1.2.2.2.1 a ha]
      exact ⟨V1, V1, this⟩
  refine g_X11_playNow_32 (d := d + 5) ⟨fun q => (resultC (d := d + 1) SS_21 hG w h hE ha he ht).to ?_, fun q => (drawnC (d := d) w h hE ha he).to ?_⟩
  · rintro _ m1 ⟨w1, f1, rfl⟩
    refine ⟨_, rfl, ?_⟩
    have := fin (wnG v g a e th) g m1 w1 (Fx.tr Fx.rf f1 (RS_sub rfl)) (h.fx SS_21 f1 rfl)
    unfold goG wonG drwG
    rw [if_neg (hs.mp q), if_neg (hs.mp q)]
    exact this
  · have hby : byG true v th := by
      by_cases z : byG true v th
      · exact z
      · exact absurd (hs.mpr z) q
    rintro _ m1 ⟨w1, f1, rfl, H1⟩
    refine ⟨_, rfl, ?_⟩
    have := fin (if chG v g a e ≤ hdG (luG g.2.2.2.2) then 1 else 0) _ m1 w1 (Fx.tr Fx.rf f1 (RS_sub rfl)) H1
    unfold goG wonG drwG
    rw [if_pos hby, if_pos hby]
    exact this
end PLC
/-! WHAT CAN BE UNDONE -/
def gAt : List GS → Nat → GS
  | [], _ => ((fun _ => 0), (fun _ => 0), (fun _ => 0), (fun _ => 0), 0)
  | g :: _, 0 => g
  | _ :: r, k + 1 => gAt r k
/-- row a holds g from x on -/
def HL (n a x : Nat) (m : Wm) (g : GS) : Prop := n ≤ 8 ∧ (∀ k, k < 4 * n → m.1 a (x + k) = g.1 k) ∧ (∀ k, k < n → m.1 a (x + 32 + 3 * k) = g.2.1 k) ∧ (∀ k, k < n → m.1 a (x + 32 + 3 * k + 1) = g.2.2.1 k) ∧ (∀ k, k < n → m.1 a (x + 32 + 3 * k + 2) = g.2.2.2.1 k) ∧ m.1 a (x + 56) = g.2.2.2.2
def UnC (m : Wm) (H : List GS) : Prop := H.length ≤ 20 ∧ m.1 31 1 = nI H.length ∧ ∃ p, p < 20 ∧ m.1 31 2 = nI p ∧ ∀ j, j < H.length → HC (33 + 5 * ((p + 20 - j) % 20)) m (gAt H j)
def UnM (n : Nat) (m : Wm) (H : List GS) : Prop := m.1 187 30 = nI H.length ∧ ∀ j, j < H.length → HL n 201 (57 * (H.length - 1 - j)) m (gAt H j)
section UND
variable {ad : Nat → Nat} {d : Nat} {m m' m0 : Wm} {g : GS} {v : EV} {S : List Nat} {H : List GS}
theorem HL.k {n a x : Nat} (h : HL n a x m g) (e : ∀ k, x ≤ k → k < x + 57 → m'.1 a k = m.1 a k) : HL n a x m' g := by
  obtain ⟨h0, h1, h2, h3, h4, h5⟩ := h
  exact ⟨h0, fun k hk => (e _ (by omega) (by omega)).trans (h1 k hk), fun k hk => (e _ (by omega) (by omega)).trans (h2 k hk), fun k hk => (e _ (by omega) (by omega)).trans (h3 k hk), fun k hk => (e _ (by omega) (by omega)).trans (h4 k hk), (e _ (by omega) (by omega)).trans h5⟩
theorem HL.mv {n a x y : Nat} (h : HL n a x m g) (e : ∀ k, k < 57 → m'.1 a (y + k) = m.1 a (x + k)) : HL n a y m' g := by
  obtain ⟨h0, h1, h2, h3, h4, h5⟩ := h
  have e2 : ∀ k r, k < 8 → r < 3 → m'.1 a (y + 32 + 3 * k + r) = m.1 a (x + 32 + 3 * k + r) := fun k r hk hr => by
    have := e (32 + 3 * k + r) (by omega)
    rw [show y + (32 + 3 * k + r) = y + 32 + 3 * k + r by omega, show x + (32 + 3 * k + r) = x + 32 + 3 * k + r by omega] at this
    exact this
  exact ⟨h0, fun k hk => (e k (by omega)).trans (h1 k hk), fun k hk => (e2 k 0 (by omega) (by decide)).trans (h2 k hk), fun k hk => (e2 k 1 (by omega) (by decide)).trans (h3 k hk), fun k hk => (e2 k 2 (by omega) (by decide)).trans (h4 k hk), (e 56 (by decide)).trans h5⟩
theorem HL.fx {n a x ρ : Nat} (h : HL n a x m g) (f : Fx (RS S) m m') (hr : ∀ k, rg a k = ρ) (e : S.elem ρ = false) : HL n a x m' g := h.k (fun k _ _ => f.at (nRS e (hr k)))
theorem SS_ring {k : Nat} (w : WT m) (hk : k < 20) : SS (33 + 5 * k) 6 := by
  obtain ⟨r, e, h⟩ := w.ring (x := nI k) (by rw [nI_toInt (by omega)]; omega) (by rw [nI_toInt (by omega)]; omega)
  rw [nI_clamp (by omega), w.ringx hk] at e
  rw [Option.some.inj e]
  exact h
theorem SS_rk {k : Nat} (hk : k < 20) : SS (33 + 5 * k) 6 := by
  have h : k = 0 ∨ k = 1 ∨ k = 2 ∨ k = 3 ∨ k = 4 ∨ k = 5 ∨ k = 6 ∨ k = 7 ∨ k = 8 ∨ k = 9 ∨ k = 10 ∨ k = 11 ∨ k = 12 ∨ k = 13 ∨ k = 14 ∨ k = 15 ∨ k = 16 ∨ k = 17 ∨ k = 18 ∨ k = 19 := by omega
  rcases h with rfl | rfl | rfl | rfl | rfl | rfl | rfl | rfl | rfl | rfl | rfl | rfl | rfl | rfl | rfl | rfl | rfl | rfl | rfl | rfl
  all_goals
    refine ⟨⟨rfl, rfl, rfl, rfl, rfl⟩, fun j k' hj => ?_⟩
    have h : j = 0 ∨ j = 1 ∨ j = 2 ∨ j = 3 ∨ j = 4 := by omega
    rcases h with rfl | rfl | rfl | rfl | rfl
    all_goals exact ⟨rfl, rfl⟩
theorem UnC.fx (h : UnC m H) (f : Fx (RS S) m m') (e1 : S.elem 6 = false) (e2 : S.elem 53 = false) : UnC m' H := by
  obtain ⟨h1, h2, p, hp, h3, h4⟩ := h
  exact ⟨h1, (f.at (nRS (ρ := 53) e2 rfl)).trans h2, p, hp, (f.at (nRS (ρ := 53) e2 rfl)).trans h3, fun j hj => (h4 j hj).fx (SS_rk (by omega)) f e1⟩
theorem UnM.fx {n : Nat} (h : UnM n m H) (f : Fx (RS S) m m') (e1 : S.elem 29 = false) : UnM n m' H := ⟨(f.at (nRS (ρ := 29) e1 rfl)).trans h.1, fun j hj => (h.2 j hj).fx f (fun _ => rfl) e1⟩
theorem HC.br {b0 b n : Nat} (h : HC b m g) (f : Fx (BR b0 n) m m') (hd : b + 4 < b0 ∨ b0 + n < b) : HC b m' g := by
  obtain ⟨h1, h2, h3, h4, h5⟩ := h
  have r : ∀ j k, j ≤ 4 → m'.1 (b + j) k = m.1 (b + j) k := fun j k hj => f.at (by unfold BR; omega)
  exact ⟨fun k hk => (r 1 k (by decide)).trans (h1 k hk), fun k hk => (r 2 k (by decide)).trans (h2 k hk), fun k hk => (r 3 k (by decide)).trans (h3 k hk), fun k hk => (r 4 k (by decide)).trans (h4 k hk), (r 0 4 (by decide)).trans h5⟩
theorem gAt_take : ∀ (H : List GS) (n j : Nat), j < n → gAt (H.take n) j = gAt H j := by
  intro H
  induction H with
  | nil => intro n j _; rw [List.take_nil]
  | cons x H ih =>
    intro n j h
    cases n with
    | zero => omega
    | succ n =>
      cases j with
      | zero => rfl
      | succ j => exact ih n j (by omega)
set_option maxHeartbeats 1000000 in
theorem saveC (w : WT m) (h : HC 21 m g) (U : UnC m H) : Ct ad μX2_save (d + 2) [.ref (ad 31), .ref (ad 21)] m (fun r m' => r = none ∧ WT m' ∧ Fx (RS [6, 53]) m m' ∧ UnC m' ((g :: H).take 20)) := by
  obtain ⟨h1, h2, p, hp, h3, h4⟩ := U
  have go : ∀ q : Nat, q < 20 → q = (p + 1) % 20 → AW ad E0 μX2_save (d + 1 + 1) (fun r m' => r = none ∧ WT m' ∧ Fx (RS [6, 53]) m m' ∧ UnC m' ((g :: H).take 20)) 22 [(0, .ref (ad 31)), (1, .ref (ad 21))] [.int (nI q), .ref (ad 31)] m := by
    intro q hq hqp
    refine g_X2_save_22 SS_21.1 ?_
    have e2 : (uI m 31 2 (nI q)).1 31 2 = nI q := u_eq
    rw [e2, nI_clamp (by omega)]
    have w1 : WT (uI m 31 2 (nI q)) := w.t rfl (by rw [nI_toInt (by omega)]; omega) (by rw [nI_toInt (by omega)]; omega)
    have f1 : Fx (RS [6, 53]) m (uI m 31 2 (nI q)) := Fx.rf.i rfl
    have hS := SS_ring w hq
    have H1 : HC 21 (uI m 31 2 (nI q)) g := h.o (by omega)
    refine ⟨nat_in hq (by decide), 33 + 5 * q, w.ringx hq, hS.1, (e_copyF (d := d) w1 hS SS_21 (Or.inl (by omega))).to ?_⟩
    rintro _ m2 ⟨w2, f2, rfl, k1, k2, k3⟩
    have f2' : Fx (RS [6]) (uI m 31 2 (nI q)) m2 := Fx.tr Fx.rf f2 (fun a k hk => by
      unfold BR at hk
      unfold RS
      have hj := (hS.2 (a - (33 + 5 * q)) k (by omega)).1
      rw [show 33 + 5 * q + (a - (33 + 5 * q)) = a by omega] at hj
      rw [hj]
      rfl)
    have e31 : m2.1 31 1 = nI H.length := (f2.at (by unfold BR; omega)).trans ((u_ne (by omega)).trans h2)
    have e32 : m2.1 31 2 = nI q := (f2.at (by unfold BR; omega)).trans e2
    have HN : HC (33 + 5 * q) m2 g := ⟨fun k hk => (k1 k hk).trans (H1.1 k hk), fun k hk => (k2 2 k (by decide) (by decide) hk).trans (H1.2.1 k hk), fun k hk => (k2 3 k (by decide) (by decide) hk).trans (H1.2.2.1 k hk), fun k hk => (k2 4 k (by decide) (by decide) hk).trans (H1.2.2.2.1 k hk), k3.trans H1.2.2.2.2⟩
    have el : ((g :: H).take 20).length = if 20 < H.length + 1 then 20 else H.length + 1 := by
      rw [List.length_take, List.length_cons]
      split <;> omega
    have ev : (if (20 : Int32) < m2.1 31 1 + (1 : Int32) then (20 : Int32) else m2.1 31 1 + (1 : Int32)) = nI ((g :: H).take 20).length := by
      rw [e31, nI_1, el]
      by_cases c : 20 < H.length + 1
      · rw [if_pos c, if_pos ((lt_l 20 20 rfl (by decide) (by omega)).mpr c)]; rfl
      · rw [if_neg c, if_neg (fun z => c ((lt_l 20 20 rfl (by decide) (by omega)).mp z))]
    have l20 : ((g :: H).take 20).length ≤ 20 := by rw [el]; split <;> omega
    rw [ev]
    have tl : (nI ((g :: H).take 20).length).toInt = ((g :: H).take 20).length := nI_toInt (by omega)
    refine ⟨rfl, rfl, w2.t rfl (by omega) (by omega), (f1.tr f2' (RS_sub rfl)).i rfl, l20, u_eq, q, hq, (u_ne (by omega)).trans e32, fun j hj => ?_⟩
    rw [gAt_take _ _ _ (by omega)]
    cases j with
    | zero =>
      rw [show (q + 20 - 0) % 20 = q by omega]
      exact HN.o (by omega)
    | succ j =>
      have hjl : j < H.length := by rw [el] at hj; split at hj <;> omega
      have h5 := h4 j hjl
      have es : (q + 20 - (j + 1)) % 20 = (p + 20 - j) % 20 := by omega
      rw [es]
      exact (((h5.o (by omega)).br f2 (by omega)).o (by omega))
  refine v_X2_save SS_21.1 ?_
  rw [h3, nI_1]
  refine ⟨fun c => ?_, fun c => ?_⟩
  · have := (le_l 20 20 rfl (by decide) (by omega)).mp c
    exact go 0 (by decide) (by omega)
  · have : ¬ 20 ≤ p + 1 := fun z => c ((le_l 20 20 rfl (by decide) (by omega)).mpr z)
    exact go (p + 1) (by omega) (by omega)
theorem backC (w : WT m) (U : UnC m H) : Ct ad μX2_takeBack (d + 2) [.ref (ad 31), .ref (ad 21)] m (fun r m' => WT m' ∧ Fx (RS [4, 53]) m m' ∧ ((H = [] ∧ r = some (.int 0) ∧ m' = m) ∨ ∃ g H', H = g :: H' ∧ r = some (.int 1) ∧ HC 21 m' g ∧ UnC m' H')) := by
  obtain ⟨h1, h2, p, hp, h3, h4⟩ := U
  cases H with
  | nil =>
    refine v_X2_takeBack SS_21.1 ⟨fun c => absurd h2 c, fun _ => ⟨w, Fx.rf, Or.inl ⟨rfl, rfl, rfl⟩⟩⟩
  | cons g H' =>
    rw [List.length_cons] at h1 h2 h4
    have hS := SS_ring w hp
    refine v_X2_takeBack SS_21.1 ⟨fun _ => ?_, fun c => ?_⟩
    · rw [h3, nI_clamp (by omega)]
      have H0 : HC (33 + 5 * p) m g := by
        have := h4 0 (by omega)
        rw [show (p + 20 - 0) % 20 = p by omega] at this
        exact this
      refine ⟨nat_in hp (by decide), 33 + 5 * p, w.ringx hp, hS.1, (copyC (d := d) w SS_21 hS (Or.inr (by omega)) H0).to ?_⟩
      rintro _ m2 ⟨rfl, w2, f2, H2⟩
      have e32 : m2.1 31 2 = nI p := (f2.at (nRS (ρ := 53) rfl rfl)).trans h3
      have e31 : m2.1 31 1 = nI (H'.length + 1) := (f2.at (nRS (ρ := 53) rfl rfl)).trans h2
      have fin : ∀ q : Nat, q < 20 → q = (p + 19) % 20 → AW ad E0 μX2_takeBack (d + 1 + 1) (fun r m' => WT m' ∧ Fx (RS [4, 53]) m m' ∧ ((g :: H' = [] ∧ r = some (.int 0) ∧ m' = m) ∨ ∃ g1 H1, g :: H' = g1 :: H1 ∧ r = some (.int 1) ∧ HC 21 m' g1 ∧ UnC m' H1)) 41 [(0, .ref (ad 31))] [.int (nI q), .ref (ad 31)] m2 := by
        intro q hq hqp
        refine g_X2_takeBack_41 ?_
        have e1 : (uI m2 31 2 (nI q)).1 31 1 = nI (H'.length + 1) := (u_ne (by omega)).trans e31
        have eb : nI (H'.length + 1) - (1 : Int32) = nI H'.length := nI_sb (a := H'.length + 1) (b := 1) (by omega) (by omega)
        rw [e1, eb]
        have tq : (nI q).toInt = q := nI_toInt (by omega)
        have tl : (nI H'.length).toInt = H'.length := nI_toInt (by omega)
        refine ⟨(w2.t rfl (by omega) (by omega)).t rfl (by omega) (by omega), ((Fx.tr (S := RS [4, 53]) Fx.rf f2 (RS_sub rfl)).i rfl).i rfl, Or.inr ⟨g, H', rfl, rfl, (H2.o (by omega)).o (by omega), by omega, u_eq, q, hq, (u_ne (by omega)).trans u_eq, fun j hj => ?_⟩⟩
        have h5 := h4 (j + 1) (by omega)
        have es : (q + 20 - j) % 20 = (p + 20 - (j + 1)) % 20 := by omega
        rw [es]
        exact (((h5.fx (SS_ring w (by omega)) f2 rfl).o (by omega)).o (by omega))
      refine ⟨rfl, fun c => ?_, fun c => ?_⟩
      · rw [e32] at c
        have := (l_le 0 0 rfl (by decide) (by omega)).mp c
        exact fin 19 (by decide) (by omega)
      · rw [e32] at c
        have hp0 : ¬ p ≤ 0 := fun z => c ((l_le 0 0 rfl (by decide) (by omega)).mpr z)
        have eb : nI p - (1 : Int32) = nI (p - 1) := nI_sb (a := p) (b := 1) (by omega) (by omega)
        rw [e32, eb]
        exact fin (p - 1) (by omega) (by omega)
    · rw [h2] at c
      have := (nI_eq (a := H'.length + 1) (b := 0) (by omega) (by omega)).mp c
      omega
end UND
/-! THE MODEL'S LEAGUE LAID INTO A ROW AND BROUGHT BACK; WHAT CAN BE UNDONE THERE -/
section LAH
variable {ad : Nat → Nat} {d n a na reg x : Nat} {m m' m0 : Wm} {g : GS} {v : EV} {S : List Nat} {H : List GS}
theorem layM_in {n : Nat} {k : Nat} (hk : k < n) : (layM m a x n).1 a (x + k) = layV m k := by
  show (if a = a ∧ x ≤ x + k ∧ x + k < x + n then layV m (x + k - x) else m.1 a (x + k)) = _
  rw [if_pos ⟨rfl, by omega, by omega⟩, Nat.add_sub_cancel_left]
theorem layM_ot {n k : Nat} (hk : ¬ (x ≤ k ∧ k < x + n)) : (layM m a x n).1 a k = m.1 a k := if_neg (fun q => hk q.2)
theorem lay_HL (h : HM n m g) (h8 : n ≤ 8) : HL n a x (layM m a x 57) g := by
  obtain ⟨h1, h2, h3, h4, h5⟩ := h
  have e : ∀ k r, k < 8 → r < 3 → (layM m a x 57).1 a (x + 32 + 3 * k + r) = if r = 0 then m.1 190 k else if r = 1 then m.1 191 k else m.1 192 k := fun k r hk hr => by
    have := layM_in (m := m) (a := a) (x := x) (n := 57) (k := 32 + 3 * k + r) (by omega)
    rw [show x + (32 + 3 * k + r) = x + 32 + 3 * k + r by omega] at this
    rw [this, layV_b hk hr]
  refine ⟨h8, fun k hk => ?_, fun k hk => ?_, fun k hk => ?_, fun k hk => ?_, ?_⟩
  · rw [layM_in (by omega), layV_a (by omega)]; exact h1 k hk
  · have := e k 0 (by omega) (by decide); exact this.trans (h2 k hk)
  · have := e k 1 (by omega) (by decide); exact this.trans (h3 k hk)
  · have := e k 2 (by omega) (by decide); exact this.trans (h4 k hk)
  · rw [layM_in (by omega)]
    exact h5
theorem layH (ha : LAY[a]? = some (.inr (0, na))) (hn : ∀ b ∈ [187, 188, 190, 191, 192], b ≠ a) (hb : na < 100000) (hty : ∀ k, TY a k = none) (hrg : ∀ k, RS [reg] a k) (w : WT m) (h : HM n m g) (h8 : n ≤ 8) (hx : x + 57 ≤ na) :
    Ct ad μX12_lay d [.ref (ad 187), .ref (ad a), .int (nI x)] m (fun r m' => r = none ∧ WT m' ∧ Fx (RS [reg]) m m' ∧ HL n a x m' g ∧ (∀ k, ¬ (x ≤ k ∧ k < x + 57) → m'.1 a k = m.1 a k) ∧ ∀ b k, b ≠ a → m'.1 b k = m.1 b k) := by
  refine (layC ha hn hx hb).to ?_
  rintro _ m' ⟨rfl, e⟩
  obtain rfl := e
  exact ⟨rfl, w.same (fun b k h => layM_at (fun q => h (by rw [q]; exact hty k))) rfl, fun b k h => ⟨layM_at (fun q => h (by rw [q]; exact hrg k)), rfl, rfl⟩, lay_HL h h8, fun k hk => layM_ot hk, fun b k hb => layM_at hb⟩
theorem tgA_a {k : Nat} (h : k < 32) : tgt k = (188, k) := if_pos h
theorem tgA_b {k r : Nat} (h : k < 8) (hr : r < 3) : tgt (32 + 3 * k + r) = (190 + r, k) := by
  unfold tgt
  rw [if_neg (by omega), if_pos (by omega), show (32 + 3 * k + r - 32) % 3 = r by omega, show (32 + 3 * k + r - 32) / 3 = k by omega]
theorem bringH (ha : LAY[a]? = some (.inr (0, na))) (hn : ∀ b ∈ [187, 188, 190, 191, 192], b ≠ a) (hb : na < 100000) (w : WT m) (h : HL n a x m g) (hx : x + 57 ≤ na) :
    Ct ad μX12_bring d [.ref (ad 187), .ref (ad a), .int (nI x)] m (fun r m' => r = none ∧ WT m' ∧ Fx (RS [24, 49]) m m' ∧ HM n m' g) := by
  refine (bringC ha hn hx hb).to ?_
  rintro _ m' ⟨rfl, e⟩
  obtain rfl := e
  obtain ⟨h8, h1, h2, h3, h4, h5⟩ := h
  have B : ∀ k, k < 57 → (brM m a x 57).1 (tgt k).1 (tgt k).2 = m.1 a (x + k) := fun k hk => brM_at hk (Nat.le_refl _)
  refine ⟨rfl, w.same (fun b k h => brM_out (fun i q => h ?_) (Nat.le_refl _)) (congrArg Prod.snd (brM_2 57)), fun b k h => ⟨brM_out (fun i q => h ?_) (Nat.le_refl _), ?_, ?_⟩, fun k hk => ?_, fun k hk => ?_, fun k hk => ?_, fun k hk => ?_, ?_⟩
  · have := (tgt_rg i).1; rw [q] at this; exact this
  · have := (tgt_rg i).2; rw [q] at this; exact this
  · rw [brM_2 57]
  · rw [brM_2 57]
  · have := B k (by omega)
    rw [tgA_a (by omega)] at this
    exact this.trans (h1 k hk)
  · have := B (32 + 3 * k + 0) (by omega)
    rw [tgA_b (by omega) (by decide), show x + (32 + 3 * k + 0) = x + 32 + 3 * k by omega] at this
    exact this.trans (h2 k hk)
  · have := B (32 + 3 * k + 1) (by omega)
    rw [tgA_b (by omega) (by decide), show x + (32 + 3 * k + 1) = x + 32 + 3 * k + 1 by omega] at this
    exact this.trans (h3 k hk)
  · have := B (32 + 3 * k + 2) (by omega)
    rw [tgA_b (by omega) (by decide), show x + (32 + 3 * k + 2) = x + 32 + 3 * k + 2 by omega] at this
    exact this.trans (h4 k hk)
  · exact (B 56 (by decide)).trans h5
theorem gAt_t {j : Nat} {L : List GS} {g : GS} : gAt (g :: L) (j + 1) = gAt L j := rfl
set_option maxHeartbeats 1000000 in
theorem rememberM (w : WT m) (h : HM n m g) (h8 : n ≤ 8) (U : UnM n m H) (hl : H.length ≤ 20) : Ct ad μX12_remember (d + 1) [.ref (ad 187)] m (fun r m' => r = none ∧ WT m' ∧ Fx (RS [29]) m m' ∧ UnM n m' ((g :: H).take 20)) := by
  obtain ⟨h1, h2⟩ := U
  have el : ((g :: H).take 20).length = if 20 < H.length + 1 then 20 else H.length + 1 := by
    rw [List.length_take, List.length_cons]
    split <;> omega
  -- behind what was moved: entry j of H (those with j < L) stands at L - 1 - j
  have fin : ∀ (L : Nat) (m1 : Wm), L < 20 → ((g :: H).take 20).length = L + 1 → L ≤ H.length → WT m1 → Fx (RS [29]) m m1 → m1.1 187 30 = nI L → (∀ j, j < L → HL n 201 (57 * (L - 1 - j)) m1 (gAt H j)) → AW ad E0 μX12_remember (d + 1) (fun r m' => r = none ∧ WT m' ∧ Fx (RS [29]) m m' ∧ UnM n m' ((g :: H).take 20)) 49 [(0, .ref (ad 187))] [] m1 := by
    intro L m1 hL hlen hLH w1 f1 h30 hE
    have H1 := h.fx f1 rfl rfl
    refine g_X12_remember_49 ?_
    rw [h30, l_mul 57 57 rfl]
    refine (layH (na := 1140) (reg := 29) rfl (by decide) (by decide) (fun _ => rfl) (fun _ => rfl) w1 H1 h8 (by omega)).to ?_
    rintro _ m2 ⟨rfl, w2, f2, hL2, hO, hB⟩
    have e30 : m2.1 187 30 = nI L := (hB 187 30 (by decide)).trans h30
    have tL : (nI (L + 1)).toInt = ((L + 1 : Nat) : Int) := nI_toInt (by omega)
    rw [e30, nI_1]
    refine ⟨rfl, rfl, w2.t rfl (by omega) (by omega), (f1.tr f2 (fun _ _ h => h)).i rfl, ?_, fun j hj => ?_⟩
    · rw [hlen]; exact u_eq
    · rw [hlen] at hj ⊢
      rw [gAt_take _ _ _ (by omega)]
      cases j with
      | zero =>
        rw [show 57 * (L + 1 - 1 - 0) = 57 * L by omega]
        exact hL2.k (fun k _ _ => u_ne (by omega))
      | succ j =>
        rw [gAt_t, show 57 * (L + 1 - 1 - (j + 1)) = 57 * (L - 1 - j) by omega]
        exact ((hE j (by omega)).k (fun k h1 h2 => hO k (by omega))).k (fun k _ _ => u_ne (by omega))
  refine v_X12_remember ⟨fun c => ?_, fun c => ?_⟩
  · have hn : ¬ H.length = 20 := fun z => c (by rw [h1, z]; rfl)
    exact fin H.length m (by omega) (by rw [el, if_neg (by omega)]) (Nat.le_refl _) w Fx.rf h1 (fun j hj => h2 j hj)
  · have hn : H.length = 20 := (nI_eq (a := H.length) (b := 20) (by omega) (by decide)).mp (h1.symm.trans c)
    rw [hn] at h1 h2
    have L : ∀ (q k : Nat) (m1 : Wm), k + q = 1083 → WT m1 → Fx (RS [29]) m m1 → m1.1 187 30 = nI 20 → (∀ j, j < k → m1.1 201 j = m.1 201 (j + 57)) → (∀ j, k ≤ j → m1.1 201 j = m.1 201 j) → AW ad E0 μX12_remember (d + 1) (fun r m' => r = none ∧ WT m' ∧ Fx (RS [29]) m m' ∧ UnM n m' ((g :: H).take 20)) 11 [(0, .ref (ad 187)), (1, .int (nI k))] [] m1 := by
      intro q
      induction q with
      | zero =>
        intro k m1 hk w1 f1 h30 a b
        obtain rfl : k = 1083 := hk
        refine g_X12_remember_11 ⟨fun _ => ?_, fun z => absurd (by decide) z⟩
        have e : m1.1 187 30 - (1 : Int32) = nI 19 := by rw [h30]; rfl
        rw [e]
        refine fin 19 _ (by decide) (by rw [el, if_pos (by omega)]) (by omega) (w1.t rfl (by decide) (by decide)) (f1.i rfl) u_eq (fun j hj => ?_)
        refine ((h2 j (by omega)).mv (y := 57 * (19 - 1 - j)) (m' := m1) (fun k hk => ?_)).k (fun k _ _ => u_ne (by omega))
        rw [a (57 * (19 - 1 - j) + k) (by omega)]
        exact congrArg (m.1 201) (by omega)
      | succ q ih =>
        intro k m1 hk w1 f1 h30 a b
        refine g_X12_remember_11 ⟨fun z => absurd ((le_l 1083 1083 rfl (by decide) (by omega)).mp z) (by omega), fun _ => ?_⟩
        rw [add_l 57 57 rfl, nI_1, nI_clamp (by omega), nI_clamp (by omega), b (k + 57) (by omega)]
        refine ⟨nat_in (by omega) (by decide), nat_in (by omega) (by decide), ih (k + 1) _ (by omega) (w1.n rfl) (f1.i rfl) ((u_ne (by omega)).trans h30) (fun j hj => ?_) (fun j hj => (u_ne (by omega)).trans (b j (by omega)))⟩
        by_cases qq : j = k
        · rw [qq]; exact u_eq
        · exact (u_ne (fun z => qq z.2)).trans (a j (by omega))
    exact L 1083 0 m (by decide) w Fx.rf h1 (fun j hj => absurd hj (Nat.not_lt_zero j)) (fun j _ => rfl)
theorem undoM (w : WT m) (h : HM n m g) (h8 : n ≤ 8) (U : UnM n m H) (hl : H.length ≤ 20) : Ct ad μX12_undo (d + 1) [.ref (ad 187)] m (fun r m' => WT m' ∧ Fx (RS [20, 24, 29, 49]) m m' ∧ ((H = [] ∧ r = some (.int (-1)) ∧ HM n m' g ∧ UnM n m' H) ∨ ∃ g' H', H = g' :: H' ∧ r = some (.int (nI H'.length)) ∧ HM n m' g' ∧ UnM n m' H')) := by
  obtain ⟨h1, h2⟩ := U
  have w0 : WT (uI m 187 17 0) := w.n rfl
  have f0 : Fx (RS [20, 24, 29, 49]) m (uI m 187 17 0) := Fx.rf.i rfl
  have e0 : (uI m 187 17 0).1 187 30 = nI H.length := h1
  refine v_X12_undo ?_
  rw [e0]
  cases H with
  | nil =>
    refine ⟨fun c => absurd rfl c, fun _ => ⟨w0, f0, Or.inl ⟨rfl, rfl, h, ?_⟩⟩⟩
    exact ⟨h1, fun j hj => absurd hj (Nat.not_lt_zero j)⟩
  | cons g' H' =>
    rw [List.length_cons] at hl h2 ⊢
    have eb : nI (H'.length + 1) - (1 : Int32) = nI H'.length := nI_sb (a := H'.length + 1) (b := 1) (by omega) (by omega)
    rw [eb]
    have e1 : (uI (uI m 187 17 0) 187 30 (nI H'.length)).1 187 30 = nI H'.length := u_eq
    rw [e1, l_mul 57 57 rfl]
    have tL : (nI H'.length).toInt = ((H'.length : Nat) : Int) := nI_toInt (by omega)
    have w1 : WT (uI (uI m 187 17 0) 187 30 (nI H'.length)) := w0.t rfl (by omega) (by omega)
    have f1 : Fx (RS [20, 24, 29, 49]) m (uI (uI m 187 17 0) 187 30 (nI H'.length)) := f0.i rfl
    have hE : ∀ j, j < H'.length + 1 → HL n 201 (57 * (H'.length - j)) (uI (uI m 187 17 0) 187 30 (nI H'.length)) (gAt (g' :: H') j) := fun j hj => by
      have := h2 j hj
      rw [show H'.length + 1 - 1 - j = H'.length - j by omega] at this
      exact this.k (fun k _ _ => (u_ne (by omega)).trans (u_ne (by omega)))
    have hE0 := hE 0 (by omega)
    rw [Nat.sub_zero] at hE0
    refine ⟨fun _ => (bringH (na := 1140) rfl (by decide) (by decide) w1 hE0 (by omega)).to ?_, fun c => ?_⟩
    · rintro _ m2 ⟨rfl, w2, f2, H2⟩
      have k30 : m2.1 187 30 = nI H'.length := (f2.at (nRS (ρ := 29) rfl rfl)).trans e1
      rw [k30]
      refine ⟨rfl, w2, f1.tr f2 (RS_sub rfl), Or.inr ⟨g', H', rfl, rfl, H2, k30, fun j hj => ?_⟩⟩
      have := (hE (j + 1) (by omega)).fx f2 (fun _ => rfl) rfl
      rw [show H'.length - (j + 1) = H'.length - 1 - j by omega] at this
      exact this
    · have := (nI_eq (a := H'.length + 1) (b := 0) (by omega) (by omega)).mp c
      omega
end LAH
