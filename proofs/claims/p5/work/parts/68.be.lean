/-! THE MODEL'S SIDE OF A GAME -/
section CHG
variable {f f' p p' h h' rt rt' : Nat → Int32}
theorem smF_ch {i : Nat} : ∀ n, (∀ k, i ≤ k → k < i + n → f k = f' k) → smF f i n = smF f' i n := by
  intro n
  induction n with
  | zero => intro _; rfl
  | succ n ih =>
    intro e
    show smF f i n + f (i + n) = smF f' i n + f' (i + n)
    rw [ih (fun k a b => e k a (by omega)), e (i + n) (by omega) (by omega)]
theorem mxF_ch {i : Nat} : ∀ n, (∀ k, i ≤ k → k < i + n → f k = f' k) → mxF f i n = mxF f' i n := by
  intro n
  induction n with
  | zero => intro _; rfl
  | succ n ih =>
    intro e
    show (if mxF f i n < f (i + n) then f (i + n) else mxF f i n) = (if mxF f' i n < f' (i + n) then f' (i + n) else mxF f' i n)
    rw [ih (fun k a b => e k a (by omega)), e (i + n) (by omega) (by omega)]
theorem mnF_ch {i : Nat} : ∀ n, (∀ k, i ≤ k → k < i + n → f k = f' k) → mnF f i n = mnF f' i n := by
  intro n
  induction n with
  | zero => intro _; rfl
  | succ n ih =>
    intro e
    show (if f (i + n) < mnF f i n then f (i + n) else mnF f i n) = (if f' (i + n) < mnF f' i n then f' (i + n) else mnF f' i n)
    rw [ih (fun k a b => e k a (by omega)), e (i + n) (by omega) (by omega)]
theorem ltF_ch {ar s : Nat} (ha : ar ≤ 4) (h1 : ∀ k, 4 * s ≤ k → k < 4 * s + 4 → f k = f' k) (h2 : p s = p' s) (h3 : h s = h' s) : ltF f p h ar s = ltF f' p' h' ar s := funext fun c => by
  unfold ltF
  rw [mnF_ch ar (fun k a b => h1 k a (by omega)), mxF_ch ar (fun k a b => h1 k a (by omega)), smF_ch ar (fun k a b => h1 k a (by omega)), h2, h3]
  by_cases q : 0 ≤ c - 97 ∧ c - 97 ≤ nI ar - 1
  · have z0 : (0 : Int32).toInt = 0 := rfl
    have z1 : (1 : Int32).toInt = 1 := rfl
    have q1 := z_le q.1
    have q2 := z_le q.2
    have q3 : (nI ar).toInt = ar := nI_toInt (by omega)
    have q4 := ti_sub (x := nI ar) (y := (1 : Int32)) (by omega)
    have q5 := tn (x := c - 97) (by omega)
    rw [if_pos q, if_pos q, h1 (4 * s + (c - 97).toNatClampNeg) (by omega) (by omega)]
  · rw [if_neg q, if_neg q]
theorem pwF_ch {ar s z : Nat} (ha : ar ≤ 4) (h0 : ∀ k, k < z → rt k = rt' k) (h1 : ∀ k, 4 * s ≤ k → k < 4 * s + 4 → f k = f' k) (h2 : p s = p' s) (h3 : h s = h' s) : pwF rt z f p h ar s = pwF rt' z f' p' h' ar s := by
  unfold pwF
  rw [smF_ch ar (fun k a b => h1 k a (by omega)), ltF_ch ha h1 h2 h3, prF_ch h0]
end CHG
def thG (th : Int32) (a b : Nat) (g : GS) : GS :=
  (g.1, g.2.1, g.2.2.1, (if th = 2 ∨ th = 3 then upd (if th = 1 ∨ th = 3 then upd g.2.2.2.1 a (g.2.2.2.1 a + 1) else g.2.2.2.1) b ((if th = 1 ∨ th = 3 then upd g.2.2.2.1 a (g.2.2.2.1 a + 1) else g.2.2.2.1) b + 1) else (if th = 1 ∨ th = 3 then upd g.2.2.2.1 a (g.2.2.2.1 a + 1) else g.2.2.2.1)), g.2.2.2.2)
def luG (x : Int32) : Int32 := x * (1103515245 : Int32) + (12345 : Int32)
def hdG (x : Int32) : Int32 := (((x.toUInt32 >>> ((16 : Int32).toUInt32 &&& Int32.toUInt32 31)).toInt32) - ((x.toUInt32 >>> ((16 : Int32).toUInt32 &&& Int32.toUInt32 31)).toInt32) / (100 : Int32) * (100 : Int32))
abbrev byG (lk : Bool) (v : EV) (th : Int32) : Prop := lk = true ∧ ¬ lE v 4 ≤ 0 ∧ th = 0
/-- who wins: by luck, or as it must be -/
def wonG (lk : Bool) (v : EV) (a b : Nat) (th : Int32) (g : GS) : Int32 := if byG lk v th then (if chG v g a b ≤ hdG (luG g.2.2.2.2) then 1 else 0) else wnG v g a b th
def drwG (lk : Bool) (v : EV) (th : Int32) (g : GS) : GS := if byG lk v th then (g.1, g.2.1, g.2.2.1, g.2.2.2.1, luG g.2.2.2.2) else g
def goG (lk : Bool) (v : EV) (a b : Nat) (th : Int32) (g : GS) : GS := stlG true v a b (wonG lk v a b th g) (thG th a b (drwG lk v th g))
section MOD
variable {ad : Nat → Nat} {d s f t a e : Nat} {m m' m0 : Wm} {g : GS} {v : EV} {S : List Nat}
theorem HM.sk {n : Nat} (h : HM n m g) {i : Nat} {x : Int32} : HM n (uI m 188 i x) (upd g.1 i x, g.2) := by
  obtain ⟨h1, h2, h3, h4, h5⟩ := h
  refine ⟨fun k hk => ?_, h2, h3, h4, h5⟩
  rw [uI_row]
  exact upd_eq (h1 k hk)
theorem HM.pt {n : Nat} (h : HM n m g) {i : Nat} {x : Int32} : HM n (uI m 190 i x) (g.1, upd g.2.1 i x, g.2.2) := by
  obtain ⟨h1, h2, h3, h4, h5⟩ := h
  refine ⟨h1, fun k hk => ?_, h3, h4, h5⟩
  rw [uI_row]
  exact upd_eq (h2 k hk)
theorem HM.ra {n : Nat} (h : HM n m g) {i : Nat} {x : Int32} : HM n (uI m 191 i x) (g.1, g.2.1, upd g.2.2.1 i x, g.2.2.2) := by
  obtain ⟨h1, h2, h3, h4, h5⟩ := h
  refine ⟨h1, h2, fun k hk => ?_, h4, h5⟩
  rw [uI_row]
  exact upd_eq (h3 k hk)
theorem HM.th {n : Nat} (h : HM n m g) {i : Nat} {x : Int32} : HM n (uI m 192 i x) (g.1, g.2.1, g.2.2.1, upd g.2.2.2.1 i x, g.2.2.2.2) := by
  obtain ⟨h1, h2, h3, h4, h5⟩ := h
  refine ⟨h1, h2, h3, fun k hk => ?_, h5⟩
  rw [uI_row]
  exact upd_eq (h4 k hk)
theorem HM.lu {n : Nat} (h : HM n m g) {x : Int32} : HM n (uI m 187 8 x) (g.1, g.2.1, g.2.2.1, g.2.2.2.1, x) := by
  obtain ⟨h1, h2, h3, h4, h5⟩ := h
  exact ⟨h1, h2, h3, h4, u_eq⟩
theorem m_ix {x y : Nat} : (4 : Int32) * nI x + nI y = nI (4 * x + y) := by rw [l_mul 4 4 rfl, nI_add]
theorem artM (h : HM (nE v) m g) (hE : EM m v) (hf : f < nE v) (ht : t < nE v) : Ct ad μX12_artOf d [.ref (ad 187), .int (nI f), .int (nI t)] m (fun r m' => m' = m ∧ r = some (.int (artG g.1 f t (aE v)))) := by
  have ha4 := hE.2.2.2.1
  have hn8 := hE.2.2.1
  have L : ∀ (k a : Nat) (bst w : Int32), a + k = aE v → AW ad E0 μX12_artOf d (fun r m' => m' = m ∧ r = some (.int (artL g.1 f t k a bst w))) 8 [(0, .ref (ad 187)), (1, .int (nI f)), (2, .int (nI t)), (3, .int bst), (4, .int w), (5, .int (nI a))] [] m := by
    intro k
    induction k with
    | zero =>
      intro a bst w hk
      exact g_X12_artOf_8 ⟨fun _ => ⟨rfl, rfl⟩, fun c => absurd (by rw [hE.2.1]; exact (nI_leI (by omega) (by omega)).mpr (by omega)) c⟩
    | succ k ih =>
      intro a bst w hk
      have e : artL g.1 f t (k + 1) a bst w = if g.1 (4 * f + a) - g.1 (4 * t + a) ≤ w then artL g.1 f t k (a + 1) bst w else artL g.1 f t k (a + 1) (nI a) (g.1 (4 * f + a) - g.1 (4 * t + a)) := rfl
      rw [e]
      refine g_X12_artOf_8 ⟨fun c => absurd (by rw [hE.2.1] at c; exact (nI_leI (by omega) (by omega)).mp c) (by omega), fun _ => ?_⟩
      rw [m_ix, m_ix, nI_1, nI_clamp (by omega), nI_clamp (by omega), h.1 (4 * f + a) (by omega), h.1 (4 * t + a) (by omega)]
      refine ⟨nat_in (by omega) (by decide), nat_in (by omega) (by decide), fun c => ?_, fun c => ?_⟩
      · rw [if_neg (fun q => by have := z_lt c; have := z_le q; omega)]; exact ih _ _ _ (by omega)
      · rw [if_pos ((fa_le _ _).mpr (z_nlt c))]; exact ih _ _ _ (by omega)
  exact v_X12_artOf (L (aE v) 0 (-1) 0 (by omega))
theorem gainM (h : HM (nE v) m g) (hE : EM m v) (hf : f < nE v) (ht : t < nE v) {a : Nat} (ha : a < 4) : Ct ad μX12_gainOf (d + 1) [.ref (ad 187), .int (nI f), .int (nI t), .int (nI a)] m (fun r m' => m' = m ∧ r = some (.int (gnG (iE v f) (lE v 1) (g.1 (4 * t + a)) (g.1 (4 * f + a))))) := by
  have e11 : (1 : Int32).toNatClampNeg = 1 := rfl
  have hn8 := hE.2.2.1
  refine v_X12_gainOf ?_
  rw [m_ix, m_ix, nI_clamp (by omega), nI_clamp (by omega), nI_clamp (by omega), h.1 (4 * f + a) (by omega), h.1 (4 * t + a) (by omega), e11, hE.2.2.2.2.1 1 (by decide), hE.2.2.2.2.2.1 f hf]
  refine ⟨nat_in (by omega) (by decide), fun c => ⟨nat_in (by omega) (by decide), nat_in (by omega) (by decide), rfl, ?_⟩, fun c => ⟨rfl, ?_⟩⟩
  · have hi : ¬ iE v f = true := fun z => by rw [if_pos z] at c; exact absurd c (by decide)
    unfold gnG
    rw [if_neg hi]
  · have hi : iE v f = true := by
      cases q : iE v f with
      | true => rfl
      | false => exact absurd (by rw [q]; rfl) c
    unfold gnG
    rw [if_pos hi]
set_option maxHeartbeats 1000000 in
theorem teachM (w : WT m) (f0 : Fx (RS [24]) m0 m) (h : HM (nE v) m g) (hE : EM m v) (hf : f < nE v) (ht : t < nE v) (hft : f ≠ t) : Ct ad μX12_teach (d + 2) [.ref (ad 187), .int (nI f), .int (nI t)] m (fun r m' => r = none ∧ WT m' ∧ Fx (RS [24]) m0 m' ∧ HM (nE v) m' (tchG true v f t g)) := by
  have e22 : (2 : Int32).toNatClampNeg = 2 := rfl
  have ha4 := hE.2.2.2.1
  have hn8 := hE.2.2.1
  refine v_X12_teach (d := d + 1) ((artM (d := d + 1) h hE hf ht).to ?_)
  rintro _ m1 ⟨eq, rfl⟩
  obtain rfl := eq.symm
  refine ⟨_, rfl, fun c => ?_, fun c => ⟨rfl, w, f0, ?_⟩⟩
  · rcases artG_of (s := g.1) (f := f) (t := t) (n := aE v) with q | ⟨a, ha, q⟩
    · exact absurd q c
    have G : tchG true v f t g = (upd (upd g.1 (4 * t + a) (g.1 (4 * t + a) + gnG (iE v f) (lE v 1) (g.1 (4 * t + a)) (g.1 (4 * f + a)))) (4 * f + a) (clS (g.1 (4 * f + a) + lE v 2 - 1)), g.2.1, upd g.2.2.1 f (g.2.2.1 f + gnG (iE v f) (lE v 1) (g.1 (4 * t + a)) (g.1 (4 * f + a))), g.2.2.2) := by
      unfold tchG gainG
      rw [if_neg c, q, nI_clamp (by omega), if_pos rfl]
    rw [G, q]
    refine (gainM (d := d) h hE hf ht (a := a) (by omega)).to ?_
    rintro _ m2 ⟨eq, rfl⟩
    obtain rfl := eq.symm
    generalize gnG (iE v f) (lE v 1) (g.1 (4 * t + a)) (g.1 (4 * f + a)) = n
    refine ⟨_, rfl, ?_⟩
    rw [m_ix, m_ix, nI_clamp (by omega), nI_clamp (by omega), nI_clamp (by omega), h.1 (4 * t + a) (by omega), e22]
    have r1 : (uI m 188 (4 * t + a) (g.1 (4 * t + a) + n)).1 191 f = g.2.2.1 f := h.2.2.1 f hf
    rw [r1]
    have r2 : (uI (uI m 188 (4 * t + a) (g.1 (4 * t + a) + n)) 191 f (g.2.2.1 f + n)).1 188 (4 * f + a) = g.1 (4 * f + a) := (u_ne (by omega)).trans ((u_ne (by omega)).trans (h.1 (4 * f + a) (by omega)))
    have r3 : (uI (uI m 188 (4 * t + a) (g.1 (4 * t + a) + n)) 191 f (g.2.2.1 f + n)).1 193 2 = lE v 2 := hE.2.2.2.2.1 2 (by decide)
    rw [r2, r3]
    have V1 : vp_in (nI (4 * t + a)) 32 := nat_in (by omega) (by decide)
    have V2 : vp_in (nI (4 * f + a)) 32 := nat_in (by omega) (by decide)
    have V3 : vp_in (nI f) 8 := nat_in (by omega) (by decide)
    exact ⟨V1, V1, V3, V3, V2, V2, rfl, ((w.n rfl).n rfl).n rfl, ((f0.i rfl).i rfl).i rfl, ((h.sk).ra).sk⟩
  · unfold tchG
    rw [if_pos c]
    exact h
theorem hasM_3 {th y : Int32} (hy : y = 0 ∨ y = 1) (ht : th = 0 ∨ th = 1 ∨ th = 2 ∨ th = 3) : Ct ad μX12_has d [.int th, .int y] m (fun r m' => m' = m ∧ r = some (.int (if (y = 0 ∧ (th = 1 ∨ th = 3)) ∨ (y = 1 ∧ (th = 2 ∨ th = 3)) then 1 else 0))) := by
  refine (hasM_ok).to ?_
  rintro _ m1 ⟨eq, rfl⟩
  refine ⟨eq, congrArg (fun z => some (Value.int z)) ?_⟩
  rcases hy with rfl | rfl <;> rcases ht with rfl | rfl | rfl | rfl <;> decide
set_option maxHeartbeats 1000000 in
theorem settleM (w : WT m) (h : HM (nE v) m g) (hE : EM m v) (ha : a < nE v) (he : e < nE v) (hae : a ≠ e) {th x4 : Int32} (ht : th = 0 ∨ th = 1 ∨ th = 2 ∨ th = 3) :
    Ct ad μX12_settle (d + 3) [.ref (ad 187), .int (nI a), .int (nI e), .int th, .int x4] m (fun r m' => r = none ∧ WT m' ∧ Fx (RS [24]) m m' ∧ HM (nE v) m' (stlG true v a e x4 (thG th a e g))) := by
  have e00 : (0 : Int32).toNatClampNeg = 0 := rfl
  have hn8 := hE.2.2.1
  have lw0 : ∀ m1, Fx (RS [24]) m m1 → m1.1 193 0 = lE v 0 := fun m1 f1 => (f1.at (nRS (ρ := 47) rfl rfl)).trans (hE.2.2.2.2.1 0 (by decide))
  have V1 : vp_in (nI a) 8 := nat_in (by omega) (by decide)
  have V2 : vp_in (nI e) 8 := nat_in (by omega) (by decide)
  have WL : ∀ (wi lo : Nat) (g1 : GS) (m1 : Wm), wi < nE v → lo < nE v → wi ≠ lo → WT m1 → Fx (RS [24]) m m1 → HM (nE v) m1 g1 → AW ad E0 μX12_settle (d + 2 + 1) (fun r m' => r = none ∧ WT m' ∧ Fx (RS [24]) m m' ∧ HM (nE v) m' (stl2 true v wi lo (stl1 true v wi lo (g1.1, upd g1.2.1 wi (g1.2.1 wi + 3), g1.2.2)))) 85 [(0, .ref (ad 187)), (5, .int (nI wi))] [.int (nI lo)] m1 := by
    intro wi lo g1 m1 hwi hlo hwl w1 f1 H1
    have B : ∀ (g2 : GS) (m2 : Wm), WT m2 → Fx (RS [24]) m m2 → HM (nE v) m2 g2 → AW ad E0 μX12_settle (d + 2 + 1) (fun r m' => r = none ∧ WT m' ∧ Fx (RS [24]) m m' ∧ HM (nE v) m' (stl2 true v wi lo g2)) 125 [(0, .ref (ad 187)), (5, .int (nI wi)), (6, .int (nI lo))] [] m2 := by
      intro g2 m2 w2 f2 H2
      have T : lE v 0 = 1 ∨ lE v 0 = 2 → Ct ad μX12_teach (d + 2) [.ref (ad 187), .int (nI lo), .int (nI wi)] m2 (fun r m1 => r = none ∧ WT m1 ∧ Fx (RS [24]) m m1 ∧ HM (nE v) m1 (stl2 true v wi lo g2)) := fun q => by
        refine (teachM (d := d) w2 f2 H2 (hE.fx f2 rfl) hlo hwi (Ne.symm hwl)).to ?_
        rintro _ m3 ⟨rfl, w3, f3, H3⟩
        refine ⟨rfl, w3, f3, ?_⟩
        unfold stl2
        rw [if_pos q]
        exact H3
      refine g_X12_settle_125 ?_
      rw [e00, lw0 m2 f2]
      refine ⟨fun q => (T (Or.inl q)).to (fun r m1 z => ⟨z.1, rfl, z.2⟩), fun n1 => ⟨fun n2 => ⟨rfl, w2, f2, ?_⟩, fun q => (T (Or.inr q)).to (fun r m1 z => ⟨z.1, rfl, z.2⟩)⟩⟩
      unfold stl2
      rw [if_neg (fun z => z.elim n1 n2)]
      exact H2
    have H3 : HM (nE v) (uI m1 190 wi (g1.2.1 wi + 3)) (g1.1, upd g1.2.1 wi (g1.2.1 wi + 3), g1.2.2) := H1.pt
    have w3 : WT (uI m1 190 wi (g1.2.1 wi + 3)) := w1.n rfl
    have f3 : Fx (RS [24]) m (uI m1 190 wi (g1.2.1 wi + 3)) := f1.i rfl
    generalize (g1.1, upd g1.2.1 wi (g1.2.1 wi + 3), g1.2.2) = g3 at H3 ⊢
    have T : lE v 0 = 0 ∨ lE v 0 = 2 → Ct ad μX12_teach (d + 2) [.ref (ad 187), .int (nI wi), .int (nI lo)] (uI m1 190 wi (g1.2.1 wi + 3)) (fun r m2 => r = none ∧ AW ad E0 μX12_settle (d + 2 + 1) (fun r m' => r = none ∧ WT m' ∧ Fx (RS [24]) m m' ∧ HM (nE v) m' (stl2 true v wi lo (stl1 true v wi lo g3))) 125 [(0, .ref (ad 187)), (5, .int (nI wi)), (6, .int (nI lo))] [] m2) := fun q => by
      refine (teachM (d := d) w3 f3 H3 (hE.fx f3 rfl) hwi hlo hwl).to ?_
      rintro _ m4 ⟨rfl, w4, f4, H4⟩
      refine ⟨rfl, ?_⟩
      have es : stl1 true v wi lo g3 = tchG true v wi lo g3 := if_pos q
      rw [es]
      exact B _ _ w4 f4 H4
    refine g_X12_settle_85 ?_
    rw [nI_clamp (by omega), H1.2.1 wi hwi, e00, lw0 _ f3]
    refine ⟨nat_in (by omega) (by decide), nat_in (by omega) (by decide), fun q => T (Or.inl q), fun n0 => ⟨fun n2 => ?_, fun q => T (Or.inr q)⟩⟩
    have es : stl1 true v wi lo g3 = g3 := if_neg (fun z => z.elim n0 n2)
    rw [es]
    exact B _ _ w3 f3 H3
  have A : ∀ (g1 : GS) (m1 : Wm), WT m1 → Fx (RS [24]) m m1 → HM (nE v) m1 g1 → AW ad E0 μX12_settle (d + 2 + 1) (fun r m' => r = none ∧ WT m' ∧ Fx (RS [24]) m m' ∧ HM (nE v) m' (stlG true v a e x4 g1)) 36 [(0, .ref (ad 187)), (1, .int (nI a)), (2, .int (nI e)), (4, .int x4)] [] m1 := by
    intro g1 m1 w1 f1 H1
    refine g_X12_settle_36 ⟨fun n2 => ⟨fun n0 => ⟨fun _ => ?_, fun q => absurd q n0⟩, fun q0 => ⟨fun q => absurd q0 q, fun _ => ?_⟩⟩, fun q2 => ?_⟩
    · have := WL e a g1 m1 he ha (Ne.symm hae) w1 f1 H1
      unfold stlG ptG
      rw [if_neg n2, if_neg n0, if_neg n0, if_pos rfl, if_neg n2]
      exact this
    · have := WL a e g1 m1 ha he hae w1 f1 H1
      unfold stlG ptG
      rw [if_neg n2, if_pos q0, if_pos q0, if_pos rfl, if_neg n2]
      exact this
    · rw [nI_clamp (by omega), nI_clamp (by omega), H1.2.1 a ha]
      have e1 : (uI m1 190 a (g1.2.1 a + 1)).1 190 e = upd g1.2.1 a (g1.2.1 a + 1) e := H1.pt.2.1 e he
      rw [e1]
      refine ⟨V1, V1, V2, V2, rfl, (w1.n rfl).n rfl, (f1.i rfl).i rfl, ?_⟩
      unfold stlG ptG
      rw [if_pos q2, if_pos rfl, if_pos q2]
      exact (H1.pt).pt
  have M : ∀ (g1 : GS) (m1 : Wm), WT m1 → Fx (RS [24]) m m1 → HM (nE v) m1 g1 → AW ad E0 μX12_settle (d + 2 + 1) (fun r m' => r = none ∧ WT m' ∧ Fx (RS [24]) m m' ∧ HM (nE v) m' (stlG true v a e x4 (g1.1, g1.2.1, g1.2.2.1, (if th = 2 ∨ th = 3 then upd g1.2.2.2.1 e (g1.2.2.2.1 e + 1) else g1.2.2.2.1), g1.2.2.2.2))) 18 [(0, .ref (ad 187)), (1, .int (nI a)), (2, .int (nI e)), (3, .int th), (4, .int x4)] [] m1 := by
    intro g1 m1 w1 f1 H1
    refine g_X12_settle_18 ((hasM_3 (y := 1) (Or.inr rfl) ht).to ?_)
    rintro _ m2 ⟨eq, rfl⟩
    obtain rfl := eq.symm
    refine ⟨_, rfl, fun c => ?_, fun c => ?_⟩
    · have n2 : ¬ (th = 2 ∨ th = 3) := fun z => by rw [if_pos (Or.inr ⟨rfl, z⟩)] at c; exact absurd c (by decide)
      rw [if_neg n2]
      exact A g1 m1 w1 f1 H1
    · have n2 : th = 2 ∨ th = 3 := by
        by_cases z : th = 2 ∨ th = 3
        · exact z
        · rw [if_neg (fun q => q.elim (fun q => absurd q.1 (by decide)) (fun q => z q.2))] at c; exact absurd rfl c
      rw [if_pos n2, nI_clamp (by omega), H1.2.2.2.1 e he]
      exact ⟨V2, V2, A _ _ (w1.n rfl) (f1.i rfl) H1.th⟩
  refine v_X12_settle ((hasM_3 (y := 0) (Or.inl rfl) ht).to ?_)
  rintro _ m2 ⟨eq, rfl⟩
  obtain rfl := eq.symm
  refine ⟨_, rfl, fun c => ?_, fun c => ?_⟩
  · have n2 : ¬ (th = 1 ∨ th = 3) := fun z => by rw [if_pos (Or.inl ⟨rfl, z⟩)] at c; exact absurd c (by decide)
    have := M g m w Fx.rf h
    unfold thG
    rw [if_neg n2]
    exact this
  · have n2 : th = 1 ∨ th = 3 := by
      by_cases z : th = 1 ∨ th = 3
      · exact z
      · rw [if_neg (fun q => q.elim (fun q => z q.2) (fun q => absurd q.1 (by decide)))] at c; exact absurd rfl c
    have := M _ _ (w.n (a := 192) (k := a) (v := g.2.2.2.1 a + 1) rfl) (Fx.rf.i rfl) h.th
    unfold thG
    rw [if_pos n2, nI_clamp (by omega), h.2.2.2.1 a ha]
    exact ⟨V1, V1, this⟩
end MOD
