section
/-! CALLS: ill, swap, law -/
def setI (v : EV) (s : Nat) (b : Bool) : EV := (v.1, v.2.1, v.2.2.1, updB v.2.2.2.1 s b, v.2.2.2.2)
def setL (v : EV) (k : Nat) (x : Int32) : EV := (v.1, v.2.1, upd v.2.2.1 k x, v.2.2.2)
def swG (s t : Nat) : Nat → (Nat → Int32) → (Nat → Int32)
  | 0, f => f
  | k + 1, f => upd (upd (swG s t k f) (4 * s + k) (swG s t k f (4 * t + k))) (4 * t + k) (swG s t k f (4 * s + k))
theorem swG_s {s t k : Nat} {f : Nat → Int32} : swG s t (k + 1) f = upd (upd (swG s t k f) (4 * s + k) (swG s t k f (4 * t + k))) (4 * t + k) (swG s t k f (4 * s + k)) := rfl
theorem ZB.sw {n s t : Nat} {g : GS} (h : ZB n g) (hs : s < n) (ht : t < n) : ∀ k, k ≤ 4 → ZB n (swG s t k g.1, g.2) := by
  intro k
  induction k with
  | zero => intro _; exact h
  | succ k ih =>
    intro hk j h1 h2
    have := ih (by omega) j h1 h2
    show swG s t (k + 1) g.1 j = 0
    rw [swG_s, upd_at, if_neg (by omega), upd_at, if_neg (by omega)]
    exact this
section ISL
variable {ad : Nat → Nat} {d : Nat} {m : Wm} {g : GS} {v : EV} {H : List GS}
/-- nothing that counts has changed -/
theorem J17 {c : Nat} (I : InvK (KX KG c) m) : InvK (KX KG (c + 1)) (uI m 187 17 0) := by
  obtain ⟨w, I1, kg, kb⟩ := I
  have f0 : Fx (RS [20]) m (uI m 187 17 0) := Fx.rf.i rfl
  exact ⟨w.n rfl, I1.f2 (Fx.rf (S := RS [])) f0 rfl rfl, kg.fx f0 rfl, KB.fd c (Fx.rf (S := RS [])) f0 kb rfl rfl⟩
theorem UnC.none (h : UnC m H) : UnC (uI m 31 1 (0 : Int32)) [] := by
  obtain ⟨h1, h2, p, hp, h3, h4⟩ := h
  exact ⟨Nat.zero_le _, u_eq, p, hp, (u_ne (by omega)).trans h3, fun j hj => absurd hj (Nat.not_lt_zero j)⟩
theorem UnM.none {n : Nat} : UnM n (uI m 187 30 (0 : Int32)) [] := ⟨u_eq, fun j hj => absurd hj (Nat.not_lt_zero j)⟩
theorem ill_or {il : Nat → Bool} {s : Nat} (h : illC m il) (hs : s < 8) : ∀ j, j < 8 → bt (m.1 3 5 ||| ((1 : Int32) <<< (nI s &&& 31))) j = updB il s true j := fun j hj => by
  rw [b_or, bt_1shl (by omega) (by omega), h j hj]
  unfold updB
  by_cases q : j = s
  · rw [if_pos q, decide_eq_true q, Bool.or_true]
  · rw [if_neg q, decide_eq_false q, Bool.or_false]
theorem ill_and {il : Nat → Bool} {s : Nat} (h : illC m il) (hs : s < 8) : ∀ j, j < 8 → bt (m.1 3 5 &&& (((1 : Int32) <<< (nI s &&& 31)) ^^^ (-1 : Int32))) j = updB il s false j := fun j hj => by
  rw [b_and, b_xor, bt_1shl (by omega) (by omega), b_m1 j (by omega), h j hj]
  unfold updB
  by_cases q : j = s
  · rw [if_pos q, decide_eq_true q]; exact Bool.and_false _
  · rw [if_neg q, decide_eq_false q]; exact Bool.and_true _
theorem EC.il {s : Nat} {b : Bool} {x : Int32} (h : EC m v) (hs : s < nE v) (hb : ∀ j, j < 8 → bt x j = updB (iE v) s b j) : EC (uI m 3 5 x) (setI v s b) := by
  obtain ⟨h1, h2, h3, h4, h5, h6, h7⟩ := h
  have f : Fx (RS [42]) m (uI m 3 5 x) := Fx.rf.i rfl
  refine ⟨h1, h2, h3, h4, h5, ⟨fun j hj => ?_, fun j hj => ?_⟩, h7.fx f rfl⟩
  · show bt ((uI m 3 5 x).1 3 5) j = _
    rw [u_eq]
    exact hb j hj
  · have hj' : nE v ≤ j := hj
    show updB (iE v) s b j = false
    unfold updB
    rw [if_neg (by omega)]
    exact h6.2 j hj'
theorem EM.il {s : Nat} {b : Bool} (h : EM m v) (hs : s < nE v) : EM (uI m 189 s (if b = true then 1 else 0)) (setI v s b) := by
  obtain ⟨h1, h2, h3, h4, h5, h6, h7⟩ := h
  refine ⟨h1, h2, h3, h4, h5, fun j hj => ?_, h7⟩
  show (uI m 189 s (if b = true then 1 else 0)).1 189 j = if updB (iE v) s b j = true then 1 else 0
  unfold updB
  by_cases q : j = s
  · rw [show (if j = s then b else iE v j) = b from if_pos q, q, u_eq]
  · rw [show (if j = s then b else iE v j) = iE v j from if_neg q, u_ne (fun z => q z.2)]
    exact h6 j hj
theorem EC.lws {k : Nat} {x : Int32} (h : EC m v) : EC (uI m 4 k x) (setL v k x) := by
  obtain ⟨h1, h2, h3, h4, h5, h6, h7⟩ := h
  have f : Fx (RS [43]) m (uI m 4 k x) := Fx.rf.i rfl
  refine ⟨h1, h2, h3, h4, fun j hj => ?_, h6, h7.fx f rfl⟩
  rw [uI_row]
  exact upd_eq (h5 j hj)
set_option maxHeartbeats 1000000 in
theorem og_ill (c : Nat) (a b : Int32) (hb : b = 0 ∨ b = 1) : Both ad d μX11_ill μX12_ill [.int a, .int b] (InvK (KX KG c)) (InvK (KX KG (c + 1))) := fun m I => by
  have J := J17 I
  obtain ⟨w, I1, ⟨g, v, H, kd⟩, kb⟩ := I
  obtain ⟨hc, hm, ec, em, uc, um, zb, zh, kp, nx⟩ := kd
  have n8 := ec.2.2.1
  have hil := ec.2.2.2.2.2.1.1
  have e1 : (uI m 187 17 0).1 187 1 = nI (nE v) := em.1
  by_cases P : InN (nE v) a
  · have P0 := P
    obtain ⟨s, hs, rfl⟩ := P.of
    have vin : vp_in (nI s) 8 := nat_in (by omega) (by decide)
    have go : ∀ (x : Int32) (bb : Bool), (∀ j, j < 8 → bt x j = updB (iE v) s bb j) → vp_nar .boolean b = (if bb = true then 1 else 0) → Ct ad μX12_ill (d + 300) [.ref (ad 187), .int (nI s), .int b] (uI m 3 5 x) (fun r m2 => r = some (.int 1) ∧ InvK (KX KG (c + 1)) m2) := fun x bb hx hn => by
      have w1 : WT (uI m 3 5 x) := w.n rfl
      have f1 : Fx (RS [42]) m (uI m 3 5 x) := Fx.rf.i rfl
      have f0 : Fx (RS [20]) (uI m 3 5 x) (uI (uI m 3 5 x) 187 17 0) := Fx.rf.i rfl
      have e2 : (uI (uI m 3 5 x) 187 17 0).1 187 1 = nI (nE v) := em.1
      refine v_X12_ill (d := d + 299) ((sideM (d := d + 298) e2 n8).to ?_)
      rintro _ m1 ⟨eq, v3, rfl, z1, z2⟩
      obtain rfl := eq.symm
      refine ⟨v3, rfl, fun _ => ⟨vin, ?_⟩, fun z => absurd P0 (z1 z)⟩
      rw [nI_clamp (by omega), hn]
      have f2 : Fx (RS [20, 46]) (uI m 3 5 x) (uI (uI (uI m 3 5 x) 187 17 0) 189 s (if bb = true then 1 else 0)) := Fx.i (Fx.i Fx.rf rfl) rfl
      have ec1 : EC (uI m 3 5 x) (setI v s bb) := ec.il hs hx
      have em1 : EM (uI (uI m 3 5 x) 187 17 0) v := (em.fx f1 rfl).fx f0 rfl
      exact ⟨rfl, (w1.n rfl).n rfl, I1.f2 f1 f2 rfl rfl, ⟨g, setI v s bb, H, (hc.fx SS_21 f1 rfl).fx SS_21 f2 rfl, (hm.fx f1 rfl rfl).fx f2 rfl rfl, ec1.fx f2 rfl, em1.il hs, (uc.fx f1 rfl rfl).fx f2 rfl rfl, (um.fx f1 rfl).fx f2 rfl, zb, zh, (kp.fx f1 rfl rfl).fx f2 rfl rfl, (nx.fx f1 rfl rfl rfl).fx f2 rfl rfl rfl⟩, KB.fd c f1 f2 kb rfl rfl⟩
    refine v_X11_ill (d := d + 299) ((hasC ec.1 n8).to ?_)
    rintro _ m1 ⟨eq, v1, rfl, y1, y2⟩
    obtain rfl := eq.symm
    refine ⟨v1, rfl, fun _ => ⟨fun q => ⟨_, rfl, go _ false (ill_and hil (by omega)) ?_⟩, fun q => ⟨_, rfl, go _ true (ill_or hil (by omega)) ?_⟩⟩, fun z => absurd P0 (y1 z)⟩
    · rw [q]; rfl
    · rcases hb with z | z
      · exact absurd z q
      · rw [z]; rfl
  · have hM : Ct ad μX12_ill (d + 300) [.ref (ad 187), .int a, .int b] m (fun r m2 => r = some (.int 0) ∧ InvK (KX KG (c + 1)) m2) := by
      refine v_X12_ill (d := d + 299) ((sideM (d := d + 298) e1 n8).to ?_)
      rintro _ m1 ⟨eq, v3, rfl, z1, z2⟩
      obtain rfl := eq.symm
      exact ⟨v3, rfl, fun q => absurd (z2 q) P, fun _ => ⟨rfl, J⟩⟩
    refine v_X11_ill (d := d + 299) ((hasC ec.1 n8).to ?_)
    rintro _ m1 ⟨eq, v1, rfl, y1, y2⟩
    obtain rfl := eq.symm
    exact ⟨v1, rfl, fun q => absurd (y2 q) P, fun _ => ⟨_, rfl, hM⟩⟩
set_option maxHeartbeats 1000000 in
theorem og_swap (c : Nat) (a b : Int32) : Both ad d μX11_swap μX12_swap [.int a, .int b] (InvK (KX KG c)) (InvK (KX KG (c + 1))) := fun m I => by
  have J := J17 I
  obtain ⟨w, I1, ⟨g, v, H, kd⟩, kb⟩ := I
  obtain ⟨hc, hm, ec, em, uc, um, zb, zh, kp, nx⟩ := kd
  have n8 := ec.2.2.1
  have e1 : (uI m 187 17 0).1 187 1 = nI (nE v) := em.1
  by_cases P : Two (nE v) a b
  · have P0 := P
    obtain ⟨s, hs, rfl⟩ := P.1.of
    obtain ⟨t, ht, rfl⟩ := P.2.1.of
    have mod : ∀ m1, WT m1 → Fx (RS [4, 53]) m m1 → HC 21 m1 (swG s t 4 g.1, g.2) → UnC m1 [] → Ct ad μX12_swap (d + 300) [.ref (ad 187), .int (nI s), .int (nI t)] m1 (fun r m2 => r = some (.int 1) ∧ InvK (KX KG (c + 1)) m2) := fun m1 w1 f1 hc1 uc1 => by
      have w2 : WT (uI m1 187 17 0) := w1.n rfl
      have f2 : Fx (RS [20, 24, 29]) m1 (uI m1 187 17 0) := Fx.rf.i rfl
      have em1 := em.fx f1 rfl
      have e2 : (uI m1 187 17 0).1 187 1 = nI (nE v) := em1.1
      have hm2 : HM (nE v) (uI m1 187 17 0) g := by
        have h := hm.fx f1 rfl rfl
        exact h
      refine v_X12_swap (d := d + 299) ((twoM (d := d + 297) e2 n8).to ?_)
      rintro _ m2 ⟨eq, v3, rfl, x1, x2⟩
      obtain rfl := eq.symm
      refine ⟨v3, rfl, fun _ => ?_, fun z => absurd P0 (x1 z)⟩
      have L : ∀ (j k : Nat) (m3 : Wm), k + j = 4 → WT m3 → Fx (RS [20, 24, 29]) m1 m3 → HM (nE v) m3 (swG s t k g.1, g.2) → AW ad E0 μX12_swap (d + 299 + 1) (fun r m2 => r = some (.int 1) ∧ InvK (KX KG (c + 1)) m2) 18 [(0, .ref (ad 187)), (1, .int (nI s)), (2, .int (nI t)), (3, .int (nI k))] [] m3 := by
        intro j
        induction j with
        | zero =>
          intro k m3 hk w3 f3 h3
          obtain rfl : k = 4 := hk
          refine g_X12_swap_18 ⟨fun _ => ⟨rfl, ?_⟩, fun z => absurd ((le_l 4 4 rfl (by decide) (by omega)).mpr (Nat.le_refl _)) z⟩
          have f4 : Fx (RS [20, 24, 29]) m1 (uI m3 187 30 (0 : Int32)) := f3.i rfl
          exact ⟨w3.t rfl (by decide) (by decide), I1.f2 f1 f4 rfl rfl, ⟨(swG s t 4 g.1, g.2), v, [], hc1.fx SS_21 f4 rfl, h3, (ec.fx f1 rfl).fx f4 rfl, em1.fx f4 rfl, uc1.fx f4 rfl rfl, UnM.none, zb.sw hs ht 4 (Nat.le_refl _), fun j hj => absurd hj (Nat.not_lt_zero j), (kp.fx f1 rfl rfl).fx f4 rfl rfl, (nx.fx f1 rfl rfl rfl).fx f4 rfl rfl rfl⟩, KB.fd c f1 f4 kb rfl rfl⟩
        | succ j ih =>
          intro k m3 hk w3 f3 h3
          refine g_X12_swap_18 ⟨fun z => absurd ((le_l 4 4 rfl (by decide) (by omega)).mp z) (by omega), fun _ => ?_⟩
          rw [m_ix, m_ix, nI_1, nI_clamp (by omega), nI_clamp (by omega)]
          have i1 : m3.1 188 (4 * s + k) = swG s t k g.1 (4 * s + k) := h3.1 _ (by omega)
          have i2 : m3.1 188 (4 * t + k) = swG s t k g.1 (4 * t + k) := h3.1 _ (by omega)
          rw [i1, i2]
          have V1 : vp_in (nI (4 * s + k)) 32 := nat_in (by omega) (by decide)
          have V2 : vp_in (nI (4 * t + k)) 32 := nat_in (by omega) (by decide)
          exact ⟨V1, V2, V1, V2, ih (k + 1) _ (by omega) ((w3.n rfl).n rfl) ((f3.i rfl).i rfl) (h3.sk).sk⟩
      exact L 4 0 _ rfl w2 f2 hm2
    refine v_X11_swap (d := d + 299) ((meetC (d := d + 298) ec.1 n8).to ?_)
    rintro _ m1 ⟨eq, v1, rfl, y1, y2⟩
    obtain rfl := eq.symm
    refine ⟨v1, rfl, fun _ => ?_, fun z => absurd P0 (y1 z)⟩
    have L : ∀ (j k : Nat) (m3 : Wm), k + j = 4 → WT m3 → Fx (RS [4]) m m3 → HC 21 m3 (swG s t k g.1, g.2) → AW ad E0 μX11_swap (d + 299 + 1) (fun r m1 => ∃ v : Int32, r = some (.int v) ∧ Ct ad μX12_swap (d + 300) [.ref (ad 187), .int (nI s), .int (nI t)] m1 (fun r m2 => r = some (.int v) ∧ InvK (KX KG (c + 1)) m2)) 16 [(0, .ref (ad 0)), (1, .int (nI s)), (2, .int (nI t)), (3, .int (nI k))] [] m3 := by
      intro j
      induction j with
      | zero =>
        intro k m3 hk w3 f3 h3
        obtain rfl : k = 4 := hk
        have f4 : Fx (RS [4, 53]) m (uI m3 31 1 (0 : Int32)) := (Fx.tr Fx.rf f3 (RS_sub rfl)).i rfl
        exact g_X11_swap_16 ⟨fun _ => ⟨1, rfl, mod _ (w3.t rfl (by decide) (by decide)) f4 (h3.o (by omega)) (uc.fx f3 rfl rfl).none⟩, fun z => absurd ((le_l 4 4 rfl (by decide) (by omega)).mpr (Nat.le_refl _)) z⟩
      | succ j ih =>
        intro k m3 hk w3 f3 h3
        refine g_X11_swap_16 ⟨fun z => absurd ((le_l 4 4 rfl (by decide) (by omega)).mp z) (by omega), fun _ => (skillC (d := d + 299) (s := s) SS_21 h3 (a := k) (by omega) (by omega)).to ?_⟩
        rintro _ m4 ⟨eq, rfl⟩
        obtain rfl := eq.symm
        refine ⟨_, rfl, (skillC (d := d + 299) (s := t) SS_21 h3 (a := k) (by omega) (by omega)).to ?_⟩
        rintro _ m4 ⟨eq, rfl⟩
        obtain rfl := eq.symm
        refine ⟨_, rfl, (putC (d := d + 299) (s := s) SS_21 (a := k) (by omega) (by omega)).to ?_⟩
        rintro _ m4 ⟨rfl, rfl⟩
        refine ⟨rfl, (putC (d := d + 299) (s := t) SS_21 (a := k) (by omega) (by omega)).to ?_⟩
        rintro _ m5 ⟨rfl, rfl⟩
        rw [nI_1]
        exact ⟨rfl, ih (k + 1) _ (by omega) ((w3.n rfl).n rfl) ((f3.i rfl).i rfl) (h3.sk).sk⟩
    exact L 4 0 m rfl w Fx.rf hc
  · have hM : Ct ad μX12_swap (d + 300) [.ref (ad 187), .int a, .int b] m (fun r m2 => r = some (.int 0) ∧ InvK (KX KG (c + 1)) m2) := by
      refine v_X12_swap (d := d + 299) ((twoM (d := d + 297) e1 n8).to ?_)
      rintro _ m2 ⟨eq, v3, rfl, x1, x2⟩
      obtain rfl := eq.symm
      exact ⟨v3, rfl, fun q => absurd (x2 q) P, fun _ => ⟨rfl, J⟩⟩
    refine v_X11_swap (d := d + 299) ((meetC (d := d + 298) ec.1 n8).to ?_)
    rintro _ m1 ⟨eq, v1, rfl, y1, y2⟩
    obtain rfl := eq.symm
    exact ⟨v1, rfl, fun q => absurd (y2 q) P, fun _ => ⟨_, rfl, hM⟩⟩
theorem EM.lws {m2 : Wm} {ls : Nat → Int32} (h : EM m v) (f : Fx (RS [20, 47]) m m2) (hl : ∀ j, j < 5 → m2.1 193 j = ls j) : EM m2 (v.1, v.2.1, ls, v.2.2.2) := by
  obtain ⟨q1, q2, q3, q4, q5, q6, q7, q8, q9⟩ := h
  exact ⟨(f.at (nRS (ρ := 23) rfl rfl)).trans q1, (f.at (nRS (ρ := 23) rfl rfl)).trans q2, q3, q4, hl, fun s hs => (f.at (nRS (ρ := 46) rfl rfl)).trans (q6 s hs), (f.at (nRS (ρ := 48) rfl rfl)).trans q7, q8, fun j hj => (f.at (nRS (ρ := 48) rfl rfl)).trans (q9 j hj)⟩
theorem og_law (c : Nat) (a b : Int32) : Both ad d μX11_law μX12_law [.int a, .int b] (InvK (KX KG c)) (InvK (KX KG (c + 1))) := fun m I => by
  obtain ⟨w, I1, ⟨g, v, H, kd⟩, kb⟩ := I
  obtain ⟨hc, hm, ec, em, uc, um, zb, zh, kp, nx⟩ := kd
  obtain ⟨pl, lw, kq⟩ := kb
  refine (e_lawC (d := d + 299) w).to ?_
  rintro r m1 ⟨w1, ⟨hT, k, hk, hak, rfl, e⟩ | ⟨hT, rfl, e⟩⟩
  · have f1 : Fx (RS [43]) m m1 := by rw [e]; exact Fx.rf.i rfl
    have ec1 : EC m1 (setL v k b) := by rw [e]; exact ec.lws
    refine ⟨_, rfl, (e_lawM (d := d + 298) w1).to ?_⟩
    rintro r m2 ⟨w2, f2, ⟨-, k', hk', hak', rfl, h⟩ | ⟨hT2, -⟩⟩
    · have hkk : k' = k := ((nI_eq (a := k) (b := k') (by omega) (by omega)).mp (hak.symm.trans hak')).symm
      subst hkk
      have e193 : ∀ j, m1.1 193 j = m.1 193 j := fun j => f1.at (nRS (ρ := 47) rfl rfl)
      have em2 : EM m2 (setL v k' b) := (em.fx f1 rfl).lws f2 (fun j hj => by
        rw [h j, e193 j, upd_at]
        by_cases q : j = k'
        · rw [if_pos q, if_pos q]
        · rw [if_neg q, if_neg q]; exact em.2.2.2.2.1 j hj)
      refine ⟨by rw [e193 k', lw k' hk], w2, I1.f2 f1 f2 rfl rfl, ⟨g, setL v k' b, H, (hc.fx SS_21 f1 rfl).fx SS_21 f2 rfl, (hm.fx f1 rfl rfl).fx f2 rfl rfl, ec1.fx f2 rfl, em2, (uc.fx f1 rfl rfl).fx f2 rfl rfl, (um.fx f1 rfl).fx f2 rfl, zb, zh, (kp.fx f1 rfl rfl).fx f2 rfl rfl, (nx.fx f1 rfl rfl rfl).fx f2 rfl rfl rfl⟩, (pl.fx f1 rfl rfl rfl rfl rfl).fx f2 rfl rfl rfl rfl rfl, fun j hj => ?_, ((kq.fx f1 rfl rfl rfl).fx f2 rfl rfl rfl).up⟩
      rw [f2.at (a := 4) (k := j) (nRS (ρ := 43) rfl rfl), h j, e193 j, e]
      by_cases hj2 : j = k'
      · rw [hj2, if_pos rfl]; exact u_eq
      · rw [if_neg hj2]; exact (u_ne (fun q => hj2 q.2)).trans (lw j hj)
    · exact absurd hT hT2
  · subst e
    refine ⟨_, rfl, (e_lawM (d := d + 298) w1).to ?_⟩
    rintro r m2 ⟨w2, f2, ⟨hT2, -⟩ | ⟨-, rfl, h⟩⟩
    · exact absurd hT2 hT
    · have em2 : EM m2 v := em.lws f2 (fun j hj => (h j).trans (em.2.2.2.2.1 j hj))
      refine ⟨rfl, w2, I1.f2 (Fx.rf (S := RS [])) f2 rfl rfl, ⟨g, v, H, hc.fx SS_21 f2 rfl, hm.fx f2 rfl rfl, ec.fx f2 rfl, em2, uc.fx f2 rfl rfl, um.fx f2 rfl, zb, zh, kp.fx f2 rfl rfl, nx.fx f2 rfl rfl rfl⟩, pl.fx f2 rfl rfl rfl rfl rfl, fun j hj => ?_, (kq.fx f2 rfl rfl rfl).up⟩
      rw [f2.at (a := 4) (k := j) (nRS (ρ := 43) rfl rfl), h j]
      exact lw j hj
end ISL
/-! CALLS: sheet, league -/
def shtG (n a : Nat) (V : Nat → Int32) (g : GS) : GS := ((fun k => if k < 4 * n ∧ k % 4 = a then V (k / 4) else g.1 k), g.2)
def cutG (fr sd : Nat) (wp : Bool) (f : Nat → Int32) (s : Nat) : Int32 := if s < fr ∨ (wp = false ∧ sd ≤ s) then f s else 0
theorem all_sub {S L L' : List Nat} (e : (S.all fun x => !(L.elem x)) = true) (hA : ∀ y ∈ L', y ∈ L) : (S.all fun x => !(L'.elem x)) = true := List.all_eq_true.mpr (fun x hx => by
  have h1 := List.all_eq_true.mp e x hx
  cases c : L'.elem x with
  | false => rfl
  | true =>
    have hm := List.mem_of_elem_eq_true c
    rw [List.elem_eq_true_of_mem (hA x hm)] at h1
    exact absurd h1 (by decide))
theorem KG.kd : KD KG KG := by
  intro S1 S2 m m1 m2 f1 f2 k e1 e2
  exact (k.fx f1 (all_sub e1 (by decide))).fx f2 (all_sub e2 (by decide))
/-- what holds while a league is read: of the sides that stay, and behind the last -/
def lgJ (il0 : Nat → Bool) (sk0 : Nat → Int32) : LgSt → Prop
  | (st, _, _, sd, ar, fr, _, il, sk) => fr ≤ sd ∧ ar ≤ 4 ∧ (st = 2 → fr < sd) ∧ (∀ k, k < 4 * fr → sk k = sk0 k) ∧ (∀ t, t < fr → il t = il0 t) ∧ ∀ k, 4 * sd ≤ k → k < 32 → sk k = 0
theorem lst_I {il0 : Nat → Bool} {sk0 : Nat → Int32} {c : Int32} {st dg ln sd ar fr : Nat} {wp : Bool} {il : Nat → Bool} {sk : Nat → Int32} {L' : LgSt} (h : lst c st dg ln sd ar fr wp il sk = some L') (I : lgJ il0 sk0 (st, dg, ln, sd, ar, fr, wp, il, sk)) : lgJ il0 sk0 L' := by
  obtain ⟨i1, i2, i3, i4, i5, i6⟩ := I
  unfold lst at h
  by_cases c1 : c = 59 ∧ lEnd st dg ar
  · rw [if_pos c1] at h
    cases h
    exact ⟨i1, i2, fun z => absurd z (by decide), i4, i5, i6⟩
  rw [if_neg c1] at h
  by_cases s0 : st = 0
  · rw [if_pos s0] at h
    by_cases c2 : c = 119
    · rw [if_pos c2] at h
      cases h
      exact ⟨i1, i2, fun z => absurd z (by decide), i4, i5, i6⟩
    rw [if_neg c2] at h
    by_cases s8 : sd < 8
    · rw [if_pos s8] at h
      unfold lsk at h
      by_cases c3 : 0 ≤ (c - 48).toInt ∧ (c - 48).toInt ≤ 7
      · rw [if_pos c3] at h
        cases h
        refine ⟨by omega, i2, fun _ => by omega, fun k hk => ?_, fun t ht => ?_, fun k h1 h2 => ?_⟩
        · rw [upd_at, if_neg (by omega)]
          unfold clr4
          rw [if_neg (by omega)]
          exact i4 k hk
        · unfold updB
          rw [if_neg (by omega)]
          exact i5 t ht
        · rw [upd_at, if_neg (by omega)]
          unfold clr4
          rw [if_neg (by omega)]
          exact i6 k (by omega) h2
      · rw [if_neg c3] at h
        cases h
    · rw [if_neg s8] at h
      cases h
  rw [if_neg s0] at h
  by_cases s1 : st = 1
  · rw [if_pos s1] at h
    by_cases c3 : 1 ≤ (c - 48).toInt ∧ (c - 48).toInt ≤ 4
    · rw [if_pos c3] at h
      have q := tn (x := c - 48) (by omega)
      cases h
      exact ⟨Nat.le_refl _, by omega, fun z => absurd z (by decide), fun k hk => absurd hk (by omega), fun t ht => absurd ht (Nat.not_lt_zero t), fun _ _ _ => rfl⟩
    · rw [if_neg c3] at h
      cases h
  rw [if_neg s1] at h
  by_cases s2 : st = 2
  · rw [if_pos s2] at h
    have i3' := i3 s2
    by_cases d1 : dg < ar
    · rw [if_pos d1] at h
      unfold lsk at h
      by_cases c3 : 0 ≤ (c - 48).toInt ∧ (c - 48).toInt ≤ 7
      · rw [if_pos c3] at h
        cases h
        refine ⟨i1, i2, fun _ => i3', fun k hk => ?_, i5, fun k h1 h2 => ?_⟩
        · rw [upd_at, if_neg (by omega)]
          exact i4 k hk
        · rw [upd_at, if_neg (by omega)]
          exact i6 k h1 h2
      · rw [if_neg c3] at h
        cases h
    · rw [if_neg d1] at h
      by_cases c3 : c = 33
      · rw [if_pos c3] at h
        cases h
        refine ⟨i1, i2, fun z => absurd z (by decide), i4, fun t ht => ?_, i6⟩
        unfold updB
        rw [if_neg (by omega)]
        exact i5 t ht
      · rw [if_neg c3] at h
        cases h
  · rw [if_neg s2] at h
    cases h
theorem LO_I {il0 : Nat → Bool} {sk0 : Nat → Int32} {tx : Nat → Int32} {big : Bool} {L' : LgSt} : ∀ (k p : Nat) (L : LgSt), lgJ il0 sk0 L → LO tx big k p L = .inr L' → lgJ il0 sk0 L' := by
  intro k
  induction k with
  | zero =>
    intro p L hI h
    obtain ⟨st, dg, ln, sd, ar, fr, wp, il, sk⟩ := L
    by_cases c : big = false ∧ lEnd st dg ar
    · rw [LO_e c] at h
      cases h
      exact hI
    · rw [LO_n c] at h
      cases h
  | succ k ih =>
    intro p L hI h
    obtain ⟨st, dg, ln, sd, ar, fr, wp, il, sk⟩ := L
    cases hl : lst (tx p) st dg ln sd ar fr wp il sk with
    | none =>
      rw [LO_f hl] at h
      cases h
    | some L2 =>
      rw [LO_s hl] at h
      exact ih _ _ (lst_I hl hI) h
section SHL
variable {ad : Nat → Nat} {d : Nat} {m : Wm} {g : GS} {v : EV} {H : List GS}
theorem UnC.wt (w : WT m) (h : m.1 31 1 = 0) : UnC m [] := by
  obtain ⟨p, ep, -, -, p19, -⟩ := w.nat (a := 31) (k := 2) rfl (by decide)
  exact ⟨Nat.zero_le _, h, p, by omega, ep, fun j hj => absurd hj (Nat.not_lt_zero j)⟩
theorem UnM.wt {n : Nat} (h : m.1 187 30 = 0) : UnM n m [] := ⟨h, fun j hj => absurd hj (Nat.not_lt_zero j)⟩
set_option maxHeartbeats 1000000 in
theorem og_sheet (kq : Nat) (x1 x2 x3 x4 x5 : Int32) : Both ad d μX11_sheet μX12_sheet [.int x1, .int x2, .int x3, .int x4, .int x5] (InvK (KX KG kq)) (InvK (KX KG (kq + 1))) := fun m I => by
  obtain ⟨w, I1, ⟨g, v, H, kd⟩, kb⟩ := I
  have kd0 := kd
  obtain ⟨hc, hm, ec, em, uc, um, zb, zh, kp, nx⟩ := kd
  have n8 := ec.2.2.1
  have a4 := ec.2.2.2.1
  refine (e_sheetC (d := d + 299) w ec.1 n8 ec.2.1 a4).to ?_
  rintro r m1 ⟨⟨w1, f1, h⟩, hz, hs, hb⟩
  have k1 : m1.1 187 1 = nI (nE v) := (f1.at (a := 187) (k := 1) (nRS (ρ := 23) rfl rfl)).trans em.1
  have k0 : m1.1 187 0 = nI (aE v) := (f1.at (a := 187) (k := 0) (nRS (ρ := 23) rfl rfl)).trans em.2.1
  have hM := e_sheetM (ad := ad) (d := d + 298) (x1 := x1) (x2 := x2) (x3 := x3) (x4 := x4) (x5 := x5) w1 k1 n8 k0 a4
  by_cases G : shG (aE v) x1 x2 x3 ∧ (x2.toInt = 3 ∨ 0 ≤ x3.toInt)
  · have hC : r = some (.int (if x2 = 3 then -3 else shS (shV x2 x3 x4 x5) (nE v))) ∧ ∀ k, m1.1 22 k = if k < 4 * nE v ∧ k % 4 = x1.toNatClampNeg then shV x2 x3 x4 x5 (k / 4) else m.1 22 k := by
      rcases h with ⟨q, -⟩ | ⟨-, q1, q2, -⟩ | ⟨-, -, q1, q2⟩
      · exact absurd G.1 q
      · exact absurd G.2 (by omega)
      · exact ⟨q1, q2⟩
    refine ⟨_, hC.1, hM.to ?_⟩
    rintro r2 m2 ⟨⟨w2, f2, h2⟩, hz2, -, hb2⟩
    have hD : r2 = some (.int (if x2 = 3 then -3 else shS (shV x2 x3 x4 x5) (nE v))) ∧ ∀ k, m2.1 188 k = if k < 4 * nE v ∧ k % 4 = x1.toNatClampNeg then shV x2 x3 x4 x5 (k / 4) else m1.1 188 k := by
      rcases h2 with ⟨q, -⟩ | ⟨-, q1, q2, -⟩ | ⟨-, -, q1, q2⟩
      · exact absurd G.1 q
      · exact absurd G.2 (by omega)
      · exact ⟨q1, q2⟩
    have hc1 : HC 21 m1 (shtG (nE v) x1.toNatClampNeg (shV x2 x3 x4 x5) g) := by
      refine ⟨fun k hk => ?_, fun k hk => (hb 23 k (by decide) (by decide)).trans (hc.2.1 k hk), fun k hk => (hb 24 k (by decide) (by decide)).trans (hc.2.2.1 k hk), fun k hk => (hb 25 k (by decide) (by decide)).trans (hc.2.2.2.1 k hk), (hb 21 4 (by decide) (by decide)).trans hc.2.2.2.2⟩
      have e := hc.1 k hk
      have e1 := hC.2 k
      rw [show m.1 22 k = g.1 k from e] at e1
      exact e1
    have hm1 := hm.fx f1 rfl rfl
    have hm2 : HM (nE v) m2 (shtG (nE v) x1.toNatClampNeg (shV x2 x3 x4 x5) g) := by
      refine ⟨fun k hk => ?_, fun k hk => (hb2 190 k (by decide) (by decide)).trans (hm1.2.1 k hk), fun k hk => (hb2 191 k (by decide) (by decide)).trans (hm1.2.2.1 k hk), fun k hk => (hb2 192 k (by decide) (by decide)).trans (hm1.2.2.2.1 k hk), (f2.at (nRS (ρ := 49) rfl rfl)).trans hm1.2.2.2.2⟩
      have e1 := hD.2 k
      rw [hm1.1 k hk] at e1
      exact e1
    have zb2 : ZB (nE v) (shtG (nE v) x1.toNatClampNeg (shV x2 x3 x4 x5) g) := fun k h1 h2 => by
      show (if k < 4 * nE v ∧ k % 4 = x1.toNatClampNeg then shV x2 x3 x4 x5 (k / 4) else g.1 k) = 0
      rw [if_neg (by omega)]
      exact zb k h1 h2
    exact ⟨hD.1, w2, I1.f2 f1 f2 rfl rfl, ⟨_, v, [], hc1.fx SS_21 f2 rfl, hm2, (ec.fx f1 rfl).fx f2 rfl, (em.fx f1 rfl).fx f2 rfl, (UnC.wt w1 (hz G)).fx f2 rfl rfl, UnM.wt (hz2 G), zb2, fun j hj => absurd hj (Nat.not_lt_zero j), (kp.fx f1 rfl rfl).fx f2 rfl rfl, (nx.fx f1 rfl rfl rfl).fx f2 rfl rfl rfl⟩, KB.fd kq f1 f2 kb rfl rfl⟩
  · obtain rfl := (hs G).symm
    have J : ∀ m2, WT m2 → Fx (RS [20]) m m2 → InvK (KX KG (kq + 1)) m2 := fun m2 w2 f2 => ⟨w2, I1.f2 (Fx.rf (S := RS [])) f2 rfl rfl, ⟨g, v, H, kd0.fx f2 rfl⟩, KB.fd kq (Fx.rf (S := RS [])) f2 kb rfl rfl⟩
    rcases h with ⟨q, rfl, -⟩ | ⟨q0, q1, q2, rfl, -⟩ | ⟨q0, q1, -⟩
    · refine ⟨_, rfl, hM.to ?_⟩
      rintro r2 m2 ⟨⟨w2, -, h2⟩, -, f2, -⟩
      refine ⟨?_, J m2 w2 (f2 G)⟩
      rcases h2 with ⟨-, h2, -⟩ | ⟨h2, -⟩ | ⟨h2, -⟩
      · exact h2
      · exact absurd h2 q
      · exact absurd h2 q
    · refine ⟨_, rfl, hM.to ?_⟩
      rintro r2 m2 ⟨⟨w2, -, h2⟩, -, f2, -⟩
      refine ⟨?_, J m2 w2 (f2 G)⟩
      rcases h2 with ⟨h2, -⟩ | ⟨-, -, -, h2, -⟩ | ⟨-, h2, -⟩
      · exact absurd q0 h2
      · exact h2
      · exact absurd h2 (by omega)
    · exact absurd ⟨q0, q1⟩ G
end SHL
/-! CALLS: league -/
section LGG
variable {ad : Nat → Nat} {d : Nat} {m : Wm} {g : GS} {v : EV} {H : List GS}
set_option maxHeartbeats 1000000 in
/-- what stands behind a league that was taken -/
theorem KG.lg {m1 m2 : Wm} {st dg ln sd ar fr : Nat} {wp : Bool} {il : Nat → Bool} {sk : Nat → Int32} (kd : KGd m g v H) (w2 : WT m2) (f1 : Fx (RS [0, 3, 4, 7, 8, 13, 41, 42, 44, 53]) m m1) (f2 : Fx (RS [20, 21, 22, 23, 24, 25, 27, 29, 39, 45, 46, 52]) m1 m2) (hF : wp = false → fr = nE v) (V : lcV st dg sd ar fr wp) (L : lgC m True (st, dg, ln, sd, ar, fr, wp, il, sk) m1) (E : lgE m1 ln sd ar fr wp il sk m2) (hI : lgJ (iE v) g.1 (st, dg, ln, sd, ar, fr, wp, il, sk)) : KG m2 := by
  obtain ⟨hc, hm, ec, em, uc, um, zb, zh, kp, nx⟩ := kd
  obtain ⟨c1, c2, c3, c4, c5, c6, c7, c8, c9, c10⟩ := L
  obtain ⟨b1, b2, b3, b4, b5, b6, b7, b8, b9⟩ := E
  obtain ⟨V1, V2, V3, V4, V5, V6, V7⟩ := V
  obtain ⟨i1, i2, -, i4, i5, i6⟩ := hI
  have n8 := ec.2.2.1
  have hfn : fr ≤ nE v := by
    cases wp with
    | true => have := V7 rfl; omega
    | false => have := hF rfl; omega
  have cut : ∀ (j : Nat) (f : Nat → Int32), 2 ≤ j → j ≤ 4 → (∀ s, s < 8 → m.1 (21 + j) s = f s) → ∀ s, s < 8 → m1.1 (21 + j) s = cutG fr sd wp f s := fun j f h1 h2 hf s hs => by
    rw [c10 j s h1 h2 hs, hf s hs]
    rfl
  have cutI : ∀ (f : Nat → Int32) (s : Nat), s < fr → cutG fr sd wp f s = f s := fun f s hs => if_pos (Or.inl hs)
  have cutO : ∀ (f : Nat → Int32) (s : Nat), fr ≤ s → s < sd → cutG fr sd wp f s = 0 := fun f s h1 h2 => if_neg (fun q => q.elim (fun q => by omega) (fun q => by have := q.2; omega))
  have hc1 : HC 21 m1 (sk, cutG fr sd wp g.2.1, cutG fr sd wp g.2.2.1, cutG fr sd wp g.2.2.2.1, g.2.2.2.2) := ⟨c8, cut 2 _ (by decide) (by decide) hc.2.1, cut 3 _ (by decide) (by decide) hc.2.2.1, cut 4 _ (by decide) (by decide) hc.2.2.2.1, c9.trans hc.2.2.2.2⟩
  have hm1 := hm.fx f1 rfl rfl
  have hm2 : HM sd m2 (sk, cutG fr sd wp g.2.1, cutG fr sd wp g.2.2.1, cutG fr sd wp g.2.2.2.1, g.2.2.2.2) := by
    refine ⟨fun k hk => ?_, fun t ht => ?_, fun t ht => ?_, fun t ht => ?_, (f2.at (nRS (ρ := 49) rfl rfl)).trans hm1.2.2.2.2⟩
    · by_cases q : k < 4 * fr
      · exact (b7 k q).trans ((hm1.1 k (by omega)).trans (i4 k q).symm)
      · exact b6 k (by omega) hk
    · by_cases q : t < fr
      · exact (b9 t q).1.trans ((hm1.2.1 t (by omega)).trans (cutI _ t q).symm)
      · exact (b8 t (by omega) ht).1.trans (cutO _ t (by omega) ht).symm
    · by_cases q : t < fr
      · exact (b9 t q).2.1.trans ((hm1.2.2.1 t (by omega)).trans (cutI _ t q).symm)
      · exact (b8 t (by omega) ht).2.1.trans (cutO _ t (by omega) ht).symm
    · by_cases q : t < fr
      · exact (b9 t q).2.2.1.trans ((hm1.2.2.2.1 t (by omega)).trans (cutI _ t q).symm)
      · exact (b8 t (by omega) ht).2.2.1.trans (cutO _ t (by omega) ht).symm
  have e33 : m2.1 3 3 = nI sd := (f2.at (nRS (ρ := 41) rfl rfl)).trans c1
  have e34 : m2.1 3 4 = nI ar := (f2.at (nRS (ρ := 41) rfl rfl)).trans c2
  have ec2 : EC m2 (sd, ar, lE v, (fun s => decide (s < sd) && il s), tE v, zE v) := by
    refine ⟨e33, e34, V2, V4, fun k hk => (f2.at (nRS (ρ := 43) rfl rfl)).trans ((f1.at (nRS (ρ := 43) rfl rfl)).trans (ec.2.2.2.2.1 k hk)), ⟨fun s hs => ?_, fun s hs => ?_⟩, (ec.2.2.2.2.2.2.fx f1 rfl).fx f2 rfl⟩
    · rw [f2.at (a := 3) (k := 5) (nRS (ρ := 42) rfl rfl)]
      exact c7 trivial s hs
    · have hs' : sd ≤ s := hs
      show (decide (s < sd) && il s) = false
      rw [decide_eq_false (by omega)]
      rfl
  have em2 : EM m2 (sd, ar, lE v, (fun s => decide (s < sd) && il s), tE v, zE v) := by
    obtain ⟨q1, q2, q3, q4, q5, q6, q7, q8, q9⟩ := em
    refine ⟨b1, b2, V2, V4, fun k hk => (f2.at (nRS (ρ := 47) rfl rfl)).trans ((f1.at (nRS (ρ := 47) rfl rfl)).trans (q5 k hk)), fun s hs => ?_, (f2.at (nRS (ρ := 48) rfl rfl)).trans ((f1.at (nRS (ρ := 48) rfl rfl)).trans q7), q8, fun k hk => (f2.at (nRS (ρ := 48) rfl rfl)).trans ((f1.at (nRS (ρ := 48) rfl rfl)).trans (q9 k hk))⟩
    have hs' : s < sd := hs
    show m2.1 189 s = if (decide (s < sd) && il s) = true then 1 else 0
    rw [decide_eq_true hs', Bool.true_and]
    by_cases q : s < fr
    · rw [i5 s q]
      exact (b9 s q).2.2.2.trans ((f1.at (nRS (ρ := 46) rfl rfl)).trans (q6 s (by omega)))
    · exact (b8 s (by omega) hs').2.2.2
  have nx2 : NxR m2 := by
    cases wp with
    | true =>
      have b5' : m2.1 187 10 = 0 ∧ m2.1 187 11 = 0 ∧ m2.1 187 12 = 0 ∧ _ := b5
      have c6' : m1.1 0 11 = 0 ∧ _ := c6
      exact ⟨0, 0, (f2.at (nRS (ρ := 44) rfl rfl)).trans c6'.1, b5'.2.2.1, b5'.2.1, by decide, Or.inl rfl⟩
    | false =>
      obtain ⟨nr, R, n1, n2, n3, n4, n5⟩ := nx
      have b5' : m2.1 187 10 = m1.1 187 10 ∧ m2.1 187 11 = m1.1 187 11 ∧ m2.1 187 12 = m1.1 187 12 ∧ _ := b5
      have c6' : m1.1 0 11 = m.1 0 11 ∧ _ := c6
      exact ⟨nr, R, (f2.at (nRS (ρ := 44) rfl rfl)).trans (c6'.1.trans n1), b5'.2.2.1.trans ((f1.at (nRS (ρ := 52) rfl rfl)).trans n2), b5'.2.1.trans ((f1.at (nRS (ρ := 25) rfl rfl)).trans n3), n4, n5⟩
  exact ⟨_, (sd, ar, lE v, (fun s => decide (s < sd) && il s), tE v, zE v), [], hc1.fx SS_21 f2 rfl, hm2, ec2, em2, UnC.wt w2 ((f2.at (nRS (ρ := 53) rfl rfl)).trans c4), UnM.wt b3, i6, fun j hj => absurd hj (Nat.not_lt_zero j), fun i hi hz => absurd ((f2.at (nRS (ρ := 13) rfl (rg_13 4 (by omega) (by omega)))).trans (c5 i hi)) hz, nx2⟩
set_option maxHeartbeats 1000000 in
theorem og_league (kq : Nat) (hq : kq < 1000) : Both ad d μX11_league μX12_league [] (InvK (KX KG kq)) (InvK (KX KG (kq + 1))) := fun m I => by
  have IK := I
  obtain ⟨w, I0, ⟨g, v, H, kd⟩, kb⟩ := I
  have hK : KD (KX KG kq) (KX KG (kq + 1)) := KX.kd kq KG.kd
  have kK : KX KG kq m := ⟨⟨g, v, H, kd⟩, kb⟩
  have hc := kd.1
  have ec := kd.2.2.1
  have zb := kd.2.2.2.2.2.2.1
  have en := ec.1
  have n8 := ec.2.2.1
  have hil := ec.2.2.2.2.2.1
  have I1 := I0
  obtain ⟨h1, h2, h3, h4, h5⟩ := I0
  obtain ⟨a0, ea, -, a1, a4, -⟩ := w.nat (a := 187) (k := 0) rfl (by decide)
  obtain ⟨t, et, -, -, t80, -⟩ := w.nat (a := 1) (k := 1) rfl (by decide)
  have ht14 : m.1 187 14 = nI t := h2.1.symm.trans et
  have hsd : m.1 187 1 = nI (nE v) := h3.symm.trans en
  have har : m.1 3 4 = nI a0 := h4.trans ea
  by_cases ht0 : t = 0
  · subst ht0
    refine v_X11_league (d := d + 299) ⟨fun c => absurd et c, fun _ => ⟨0, rfl, (e_leagueM0 (d := d + 295) w ht14).to ?_⟩⟩
    rintro r m2 ⟨w2, f2, rfl, k14⟩
    have e11 : m2.1 1 1 = nI 0 := (f2.at (a := 1) (k := 1) (by decide)).trans et
    exact ⟨rfl, w2, ⟨h1.fx f2 rfl, TXI.zero (by rw [e11]; rfl) (by rw [k14]; rfl), IV.sd I1 (Fx.rf (S := RS [])) f2 rfl rfl⟩, hK (Fx.rf (S := RS [])) f2 kK rfl rfl⟩
  · refine (e_leagueC (d := d + 295) (HZ := True) (il0 := iE v) (sk0 := g.1) w en (by omega) har (by omega) (by omega) et (by omega) ht0 hc.1 (fun _ s hs => ?_)).to ?_
    · rw [hil.1 s hs]
      by_cases q : s < nE v
      · rw [decide_eq_true q, Bool.true_and]
      · rw [decide_eq_false q, hil.2 s (by omega)]
        rfl
    rintro r m1 ⟨w1, f1, g2, hq1, hL⟩
    have g195 : m1.1 195 = m.1 195 := funext fun k => f1.at (nRS (ρ := 21) rfl rfl)
    have eO : LO (m.1 2) (decide (76 < t)) (minT t 76) 0 (0, 0, 0, nE v, a0, nE v, false, iE v, g.1) = LO (m1.1 195) (decide (76 < t)) (minT t 76) 0 (0, 0, 0, nE v, a0, nE v, false, iE v, g.1) := by
      rw [g195]
      refine LO_ch (fun j hj => h2.2 j ?_)
      have : minT t 76 ≤ t := by unfold minT; split <;> omega
      rw [et, nI_toInt (by omega)]
      omega
    rw [eO] at hq1 hL
    have k1 : m1.1 187 1 = nI (nE v) := (f1.at (a := 187) (k := 1) (nRS (ρ := 23) rfl rfl)).trans hsd
    have k0 : m1.1 187 0 = nI a0 := (f1.at (a := 187) (k := 0) (nRS (ρ := 23) rfl rfl)).trans ea
    have k14 : m1.1 187 14 = nI t := (f1.at (a := 187) (k := 14) (nRS (ρ := 21) rfl rfl)).trans ht14
    have hM := e_leagueM (ad := ad) (d := d + 295) w1 k1 (by omega) k0 (by omega) (by omega) k14 ht0 (by omega) (iE v) g.1
    have hFr : ∀ st dg ln sd ar fr wp il sk, LO (m1.1 195) (decide (76 < t)) (minT t 76) 0 (0, 0, 0, nE v, a0, nE v, false, iE v, g.1) = .inr (st, dg, ln, sd, ar, fr, wp, il, sk) → wp = false → fr = nE v := fun _ _ _ _ _ _ _ _ _ h => LO_fr (n := nE v) _ _ _ _ _ _ _ _ _ _ _ (fun _ => rfl) h
    have hI0 : lgJ (iE v) g.1 (0, 0, 0, nE v, a0, nE v, false, iE v, g.1) := ⟨Nat.le_refl _, by omega, fun z => absurd z (by decide), fun _ _ => rfl, fun _ _ => rfl, zb⟩
    have hIv : ∀ L', LO (m1.1 195) (decide (76 < t)) (minT t 76) 0 (0, 0, 0, nE v, a0, nE v, false, iE v, g.1) = .inr L' → lgJ (iE v) g.1 L' := fun L' h => LO_I _ _ _ hI0 h
    generalize LO (m1.1 195) (decide (76 < t)) (minT t 76) 0 (0, 0, 0, nE v, a0, nE v, false, iE v, g.1) = O at hq1 hL hM hFr hIv
    cases O with
    | inl q =>
      obtain ⟨rfl, z11, F1⟩ := hq1 q rfl
      refine ⟨_, rfl, hM.to ?_⟩
      rintro r m2 ⟨⟨w2, f2, -, z14, -⟩, hq2, -⟩
      obtain ⟨rfl, F2⟩ := hq2 q rfl
      have e11 : m2.1 1 1 = 0 := (f2.at (a := 1) (k := 1) (nRS (ρ := 0) rfl rfl)).trans z11
      exact ⟨rfl, w2, ⟨(h1.fx F1 rfl).fx F2 rfl, TXI.zero (by rw [e11]; rfl) z14, IV.sd I1 F1 F2 rfl rfl⟩, hK F1 F2 kK rfl rfl⟩
    | inr L =>
      obtain ⟨st, dg, ln, sd, ar, fr, wp, il, sk⟩ := L
      have hL1 := hL st dg ln sd ar fr wp il sk rfl
      have hF := hFr st dg ln sd ar fr wp il sk rfl
      have hI := hIv _ rfl
      have hL2 := hL1.2.2
      have hL3 : lgC m False (st, dg, ln, sd, ar, fr, wp, il, sk) m1 := ⟨hL2.1, hL2.2.1, hL2.2.2.1, hL2.2.2.2.1, hL2.2.2.2.2.1, hL2.2.2.2.2.2.1, fun z => z.elim, hL2.2.2.2.2.2.2.2⟩
      obtain ⟨rfl, V, c1, c2, c3, c4, c5, c6, -⟩ := hL1
      refine ⟨_, rfl, hM.to ?_⟩
      rintro r m2 ⟨⟨w2, f2, -, z14, -⟩, -, hE⟩
      have hE1 := (hE st dg ln sd ar fr wp il sk rfl).2
      obtain ⟨rfl, b1, b2, b3, b4, b5, -⟩ := hE st dg ln sd ar fr wp il sk rfl
      have e11 : m2.1 1 1 = 0 := (f2.at (a := 1) (k := 1) (nRS (ρ := 0) rfl rfl)).trans c3
      have e33 : m2.1 3 3 = nI sd := (f2.at (a := 3) (k := 3) (nRS (ρ := 41) rfl rfl)).trans c1
      have e34 : m2.1 3 4 = nI ar := (f2.at (a := 3) (k := 4) (nRS (ρ := 41) rfl rfl)).trans c2
      have e15 : m2.1 0 15 = m1.1 0 15 := f2.at (a := 0) (k := 15) (nRS (ρ := 8) rfl rfl)
      have q10 : m1.1 187 10 = m.1 187 10 := f1.at (a := 187) (k := 10) (nRS (ρ := 25) rfl rfl)
      have q11 : m1.1 187 11 = m.1 187 11 := f1.at (a := 187) (k := 11) (nRS (ρ := 25) rfl rfl)
      have q52 : m1.1 187 52 = m.1 187 52 := f1.at (a := 187) (k := 52) (nRS (ρ := 39) rfl rfl)
      refine ⟨rfl, w2, ⟨?_, TXI.zero (by rw [e11]; rfl) z14, e33.trans b1.symm, e34.trans b2.symm, ?_⟩, KG.lg kd w2 f1 f2 hF V hL2 hE1 hI, KB.lg kq hq m m1 m2 (nE v) st dg ln sd ar fr wp il sk ⟨w, I1, kb⟩ en n8 w1 w2 f1 f2 hF V hL3 hE1 e33⟩
      · unfold RG
        cases wp with
        | true => left; have b5' : m2.1 187 10 = 0 ∧ m2.1 187 11 = 0 ∧ _ := b5; rw [b5'.2.1]; rfl
        | false => have b5' : m2.1 187 10 = m1.1 187 10 ∧ m2.1 187 11 = m1.1 187 11 ∧ _ := b5; rw [b5'.1, b5'.2.1, q10, q11]; exact h1
      · cases wp with
        | true =>
          have b5' : _ ∧ _ ∧ _ ∧ m2.1 187 52 = 0 := b5
          have c6' : _ ∧ m1.1 0 15 = 0 ∧ _ := c6
          rw [e15, c6'.2.1, b5'.2.2.2]
        | false =>
          have b5' : _ ∧ _ ∧ _ ∧ m2.1 187 52 = m1.1 187 52 := b5
          have c6' : _ ∧ m1.1 0 15 = m.1 0 15 ∧ _ := c6
          rw [e15, c6'.2.1, b5'.2.2.2, q52]
          exact h5
end LGG
/-! CALLS: keep, again -/
section KAG
variable {ad : Nat → Nat} {d n : Nat} {m m1 m2 : Wm} {g : GS} {v : EV} {H : List GS}
theorem HL.lay {a x : Nat} {m' : Wm} (h : HM n m g) (h8 : n ≤ 8) (e : ∀ k, k < 57 → m'.1 a (x + k) = layV m k) : HL n a x m' g := by
  obtain ⟨h1, h2, h3, h4, h5⟩ := h
  have e2 : ∀ k r, k < 8 → r < 3 → m'.1 a (x + 32 + 3 * k + r) = if r = 0 then m.1 190 k else if r = 1 then m.1 191 k else m.1 192 k := fun k r hk hr => by
    have := e (32 + 3 * k + r) (by omega)
    rw [show x + (32 + 3 * k + r) = x + 32 + 3 * k + r by omega] at this
    rw [this, layV_b hk hr]
  refine ⟨h8, fun k hk => ?_, fun k hk => ?_, fun k hk => ?_, fun k hk => ?_, ?_⟩
  · rw [e k (by omega), layV_a (by omega)]
    exact h1 k hk
  · exact (e2 k 0 (by omega) (by decide)).trans (h2 k hk)
  · exact (e2 k 1 (by omega) (by decide)).trans (h3 k hk)
  · exact (e2 k 2 (by omega) (by decide)).trans (h4 k hk)
  · rw [e 56 (by decide)]
    exact h5
theorem HM.tg {a x : Nat} {m' : Wm} (h : HL n a x m g) (B : ∀ k, k < 57 → m'.1 (tgt k).1 (tgt k).2 = m.1 a (x + k)) : HM n m' g := by
  obtain ⟨h8, h1, h2, h3, h4, h5⟩ := h
  refine ⟨fun k hk => ?_, fun k hk => ?_, fun k hk => ?_, fun k hk => ?_, ?_⟩
  · have := B k (by omega)
    rw [tgA_a (by omega)] at this
    exact this.trans (h1 k hk)
  · have := B (32 + 3 * k + 0) (by omega)
    rw [tgA_b (by omega) (by decide), show x + (32 + 3 * k + 0) = x + 32 + 3 * k by omega] at this
    exact this.trans (h2 k hk)
  · have := B (32 + 3 * k + 1) (by omega)
    rw [tgA_b (by omega) (by decide), show x + (32 + 3 * k + 1) = x + 32 + 3 * k + 1 by omega] at this
    exact this.trans (h3 k hk)
  · have := B (32 + 3 * k + 2) (by omega)
    rw [tgA_b (by omega) (by decide), show x + (32 + 3 * k + 2) = x + 32 + 3 * k + 2 by omega] at this
    exact this.trans (h4 k hk)
  · exact (B 56 (by decide)).trans h5
theorem KB.kpt {c i : Nat} (hi : i < 2) (k : KB c m) (C : kpC m i m1) (M : kpM m1 i m2) : KB (c + 1) m2 := by
  obtain ⟨pl, lw, kp⟩ := k
  obtain ⟨w1, F1, j1, j2, j3, j4, j5, j6, j7⟩ := C
  obtain ⟨w2, f2, b1, b2, b3, b4, b5, b6, b7, b8⟩ := M
  have f1 : Fx (RS [13]) m m1 := (Fx.rf (S := RS [13])).tr F1 (KR_13 hi rfl)
  refine ⟨(pl.fx f1 rfl rfl rfl rfl rfl).fx f2 rfl rfl rfl rfl rfl, (lw.fx f1 rfl rfl).fx f2 rfl rfl, ?_⟩
  obtain ⟨t, ht, h53, hk⟩ := kp
  have g53 : m1.1 187 53 = nI t := (f1.at (nRS (ρ := 45) rfl rfl)).trans h53
  have k53 : m2.1 187 53 = nI t := (f2.at (nRS (ρ := 45) rfl rfl)).trans g53
  have q13 : ∀ b k, 173 ≤ b → b < 187 → m2.1 b k = m1.1 b k := fun b k h1 h2 => f2.at (nRS (ρ := 13) rfl (rg_13 k h1 h2))
  refine ⟨t, by omega, k53, fun j hj => ?_⟩
  by_cases hji : j = i
  · subst hji
    have e216 : m2.1 216 j = nI t := b2.trans g53
    refine ⟨⟨t, Nat.le_refl _, e216⟩, ⟨fun _ => ⟨by rw [b1]; decide, e216.trans k53.symm⟩, fun _ => ?_⟩, fun _ k hk2 => ?_⟩
    · rw [q13 (173 + 7 * j) 4 (by omega) (by omega), j7]; decide
    · rw [q13 (173 + 7 * j + 6) k (by omega) (by omega), j5 k hk2, b6 k hk2, f1.at (a := 193) (k := k) (nRS (ρ := 47) rfl rfl)]
      exact lw k hk2
  · obtain ⟨⟨s, hs, a1⟩, a2, a3⟩ := hk j hj
    obtain ⟨d1, d2⟩ := b3 j hji
    have c215 : m2.1 215 j = m.1 215 j := d1.trans (f1.at (nRS (ρ := 40) rfl rfl))
    have c216 : m2.1 216 j = m.1 216 j := d2.trans (f1.at (nRS (ρ := 40) rfl rfl))
    have cc : ∀ b k, 173 + 7 * j ≤ b → b ≤ 173 + 7 * j + 6 → m2.1 b k = m.1 b k := fun b k h1 h2 => (q13 b k (by omega) (by omega)).trans (F1.at (by unfold BR; omega))
    refine ⟨⟨s, hs, c216.trans a1⟩, ?_, fun hz k hk2 => ?_⟩
    · rw [cc (173 + 7 * j) 4 (by omega) (by omega), c215, c216, k53, ← h53]; exact a2
    · rw [cc (173 + 7 * j) 4 (by omega) (by omega)] at hz
      rw [cc (173 + 7 * j + 6) k (by omega) (by omega), b8 (71 * j + 65 + k) (by omega), f1.at (a := 214) (k := 71 * j + 65 + k) (nRS (ρ := 40) rfl rfl)]
      exact a3 hz k hk2
theorem KGd.kpt {i : Nat} (hi : i < 2) (kd : KGd m g v H) (C : kpC m i m1) (M : kpM m1 i m2) : KGd m2 g v H := by
  obtain ⟨hc, hm, ec, em, uc, um, zb, zh, kp, nx⟩ := kd
  obtain ⟨w1, F1, j1, j2, j3, j4, j5, j6, j7⟩ := C
  obtain ⟨w2, f2, b1, b2, b3, b4, b5, b6, b7, b8⟩ := M
  have n8 := ec.2.2.1
  have f1 : Fx (RS [13]) m m1 := (Fx.rf (S := RS [13])).tr F1 (KR_13 hi rfl)
  have q13 : ∀ b k, 173 ≤ b → b < 187 → m2.1 b k = m1.1 b k := fun b k h1 h2 => f2.at (nRS (ρ := 13) rfl (rg_13 k h1 h2))
  refine ⟨(hc.fx SS_21 f1 rfl).fx SS_21 f2 rfl, (hm.fx f1 rfl rfl).fx f2 rfl rfl, (ec.fx f1 rfl).fx f2 rfl, (em.fx f1 rfl).fx f2 rfl, (uc.fx f1 rfl rfl).fx f2 rfl rfl, (um.fx f1 rfl).fx f2 rfl, zb, zh, fun j hj hz => ?_, (nx.fx f1 rfl rfl rfl).fx f2 rfl rfl rfl⟩
  by_cases hji : j = i
  · subst hji
    obtain ⟨nr, R, n1, n2, n3, n4, n5⟩ := nx
    have k3 : m2.1 (173 + 7 * j) 3 = nI nr := (q13 _ 3 (by omega) (by omega)).trans (j6.trans n1)
    have k70 : m2.1 214 (71 * j + 70) = nI nr := b7.trans ((f1.at (nRS (ρ := 52) rfl rfl)).trans n2)
    have hC : HC (173 + 7 * j + 1) m1 g := ⟨fun k hk => (j1 k hk).trans (hc.1 k hk), fun k hk => (j2 2 k (by decide) (by decide) hk).trans (hc.2.1 k hk), fun k hk => (j2 3 k (by decide) (by decide) hk).trans (hc.2.2.1 k hk), fun k hk => (j2 4 k (by decide) (by decide) hk).trans (hc.2.2.2.1 k hk), j3.trans hc.2.2.2.2⟩
    refine ⟨g, iE v, hC.fx (SS_i hj) f2 rfl, HL.lay (hm.fx f1 rfl rfl) n8 b4, zb, fun s hs => ?_, ec.2.2.2.2.2.1.2, fun s hs => ?_, k3.trans k70.symm, ?_⟩
    · rw [q13 _ 2 (by omega) (by omega), j4]
      exact ec.2.2.2.2.2.1.1 s hs
    · rw [b5 s (by omega), f1.at (a := 189) (k := s) (nRS (ρ := 46) rfl rfl), em.2.2.2.2.2.1 s hs]
      by_cases q : iE v s = true
      · rw [if_pos q]; rfl
      · rw [if_neg q]; rfl
    · rw [k3, nI_toInt (by omega)]
      omega
  · have cc : ∀ b k, 173 + 7 * j ≤ b → b ≤ 173 + 7 * j + 6 → m2.1 b k = m.1 b k := fun b k h1 h2 => (q13 b k (by omega) (by omega)).trans (F1.at (by unfold BR; omega))
    have cm : ∀ k, 71 * j ≤ k → k < 71 * j + 71 → m2.1 214 k = m.1 214 k := fun k h1 h2 => (b8 k (by omega)).trans (f1.at (nRS (ρ := 40) rfl rfl))
    rw [cc (173 + 7 * j) 4 (by omega) (by omega)] at hz
    obtain ⟨g', il, h1, h2, h3, h4, h4b, h4c, h5, h6⟩ := kp j hj hz
    have hC : HC (173 + 7 * j + 1) m2 g' := ⟨fun k hk => (cc _ k (by omega) (by omega)).trans (h1.1 k hk), fun k hk => (cc _ k (by omega) (by omega)).trans (h1.2.1 k hk), fun k hk => (cc _ k (by omega) (by omega)).trans (h1.2.2.1 k hk), fun k hk => (cc _ k (by omega) (by omega)).trans (h1.2.2.2.1 k hk), (cc _ 4 (by omega) (by omega)).trans h1.2.2.2.2⟩
    rw [cc (173 + 7 * j) 3 (by omega) (by omega)]
    refine ⟨g', il, hC, h2.k (fun k q1 q2 => cm k (by omega) (by omega)), h3, fun s hs => ?_, h4b, fun s hs => (cm _ (by omega) (by omega)).trans (h4c s hs), h5.trans (cm _ (by omega) (by omega)).symm, h6⟩
    rw [cc (173 + 7 * j) 2 (by omega) (by omega)]
    exact h4 s hs
theorem og_keep (c : Nat) (a : Int32) : Both ad d μX11_keep μX12_keep [.int a] (InvK (KX KG c)) (InvK (KX KG (c + 1))) := fun m I => by
  obtain ⟨w, I1, ⟨g, v, H, kd⟩, kb⟩ := I
  refine (e_keepC (d := d + 297) w).to ?_
  rintro r m1 (⟨i, hi, hx, rfl, C⟩ | ⟨hx, rfl, e⟩)
  · have f1 : Fx (RS [13]) m m1 := (Fx.rf (S := RS [13])).tr C.2.1 (KR_13 hi rfl)
    refine ⟨1, rfl, (e_keepM (d := d + 298) C.1).to ?_⟩
    rintro r m2 (⟨i', hi', hx', rfl, M⟩ | ⟨hx', -⟩)
    · have hii : i' = i := ((nI_eq (a := i) (b := i') (by omega) (by omega)).mp (hx.symm.trans hx')).symm
      subst hii
      exact ⟨rfl, M.1, I1.f2 f1 M.2.1 rfl rfl, ⟨g, v, H, KGd.kpt hi kd C M⟩, KB.kpt hi kb C M⟩
    · have hx2 : a.toInt = i := by rw [hx, nI_toInt (by omega)]
      omega
  · obtain rfl := e.symm
    refine ⟨0, rfl, (e_keepM (d := d + 298) w).to ?_⟩
    rintro r m2 (⟨i', hi', hx', -⟩ | ⟨-, rfl, w2, f2⟩)
    · have : a.toInt = i' := by rw [hx', nI_toInt (by omega)]
      omega
    · exact ⟨rfl, w2, I1.f2 (Fx.rf (S := RS [])) f2 rfl rfl, ⟨g, v, H, kd.fx f2 rfl⟩, KB.fd c (Fx.rf (S := RS [])) f2 kb rfl rfl⟩
theorem KB.ag {c i P : Nat} (hi : i < 2) (hz : m.1 (173 + 7 * i) 4 ≠ 0) (k : KB c m) (C : agC m i P m1) (M : agM m1 i m2) : KB (c + 1) m2 := by
  obtain ⟨pl, lw, kp⟩ := k
  have kp0 := kp
  obtain ⟨t, ht, h53, hk⟩ := kp0
  obtain ⟨w1, f1, j1, j2, j3, j4, j5, j6, j7⟩ := C
  obtain ⟨w2, f2, b1, b2, b3, b4, b5⟩ := M
  refine ⟨(pl.fx f1 rfl rfl rfl rfl rfl).fx f2 rfl rfl rfl rfl rfl, fun k hk2 => ?_, ((kp.fx f1 rfl rfl rfl).fx f2 rfl rfl rfl).up⟩
  rw [f2.at (a := 4) (k := k) (nRS (ρ := 43) rfl rfl), j5 k hk2, b3 k hk2, f1.at (a := 214) (k := 71 * i + 65 + k) (nRS (ρ := 40) rfl rfl)]
  exact (hk i hi).2.2 hz k hk2
theorem KGd.ag {c i P Q : Nat} (hi : i < 2) (hz : m.1 (173 + 7 * i) 4 ≠ 0) (kd : KGd m g v H) (kb : KB c m) (hR : PRF m P Q) (X : PlX P m) (C : agC m i P m1) (M : agM m1 i m2) : KG m2 := by
  obtain ⟨hc, hm, ec, em, uc, um, zb, zh, kp, nx⟩ := kd
  obtain ⟨pl, lw, t, ht, h53, hk⟩ := kb
  obtain ⟨w1, f1, j1, j2, j3, j4, j5, j6, j7⟩ := C
  obtain ⟨w2, f2, b1, b2, b3, b4, b5⟩ := M
  obtain ⟨g', il, h1, h2, h3, h4, h4b, h4c, h5, h6a, h6b⟩ := kp i hi hz
  have hlw := (hk i hi).2.2 hz
  have hc1 : HC 21 m1 g' := ⟨fun k hk => (j1 k hk).trans (h1.1 k hk), fun k hk => (j2 2 k (by decide) (by decide) hk).trans (h1.2.1 k hk), fun k hk => (j2 3 k (by decide) (by decide) hk).trans (h1.2.2.1 k hk), fun k hk => (j2 4 k (by decide) (by decide) hk).trans (h1.2.2.2.1 k hk), j3.trans h1.2.2.2.2⟩
  have h2' : HL (nE v) 214 (71 * i) m1 g' := h2.k (fun k _ _ => f1.at (nRS (ρ := 40) rfl rfl))
  have ec2 : EC m2 (v.1, v.2.1, (fun k => m.1 (173 + 7 * i + 6) k), il, v.2.2.2.2) := by
    obtain ⟨q1, q2, q3, q4, q5, q6, q7⟩ := ec
    refine ⟨(f2.at (nRS (ρ := 41) rfl rfl)).trans ((f1.at (nRS (ρ := 41) rfl rfl)).trans q1), (f2.at (nRS (ρ := 41) rfl rfl)).trans ((f1.at (nRS (ρ := 41) rfl rfl)).trans q2), q3, q4, fun k hk => (f2.at (nRS (ρ := 43) rfl rfl)).trans (j5 k hk), ⟨fun s hs => ?_, h4b⟩, (q7.fx f1 rfl).fx f2 rfl⟩
    rw [f2.at (a := 3) (k := 5) (nRS (ρ := 42) rfl rfl), j4]
    exact h4 s hs
  have em2 : EM m2 (v.1, v.2.1, (fun k => m.1 (173 + 7 * i + 6) k), il, v.2.2.2.2) := by
    obtain ⟨q1, q2, q3, q4, q5, q6, q7, q8, q9⟩ := em
    refine ⟨(f2.at (nRS (ρ := 23) rfl rfl)).trans ((f1.at (nRS (ρ := 23) rfl rfl)).trans q1), (f2.at (nRS (ρ := 23) rfl rfl)).trans ((f1.at (nRS (ρ := 23) rfl rfl)).trans q2), q3, q4, fun k hk => ?_, fun s hs => ?_, (f2.at (nRS (ρ := 48) rfl rfl)).trans ((f1.at (nRS (ρ := 48) rfl rfl)).trans q7), q8, fun k hk => (f2.at (nRS (ρ := 48) rfl rfl)).trans ((f1.at (nRS (ρ := 48) rfl rfl)).trans (q9 k hk))⟩
    · rw [b3 k hk, f1.at (a := 214) (k := 71 * i + 65 + k) (nRS (ρ := 40) rfl rfl)]
      exact (hlw k hk).symm
    · have hs' : s < nE v := hs
      have n8 : nE v ≤ 8 := q3
      rw [b2 s (by omega), f1.at (a := 214) (k := 71 * i + 57 + s) (nRS (ρ := 40) rfl rfl), h4c s hs']
      show _ = if il s = true then 1 else 0
      by_cases q : il s = true
      · rw [if_pos q]; rfl
      · rw [if_neg q]; rfl
  have nx2 : NxR m2 := by
    obtain ⟨nr, R, n1, n2, n3, n4, n5⟩ := nx
    obtain ⟨n', R', g1, sn, x1, x2, x3, x4, -, -, x7, -⟩ := X
    have hRR : R' = R := (nI_eq (a := R') (b := R) (by omega) (by omega)).mp (x4.symm.trans n3)
    subst hRR
    obtain ⟨k, hk', ek⟩ := zn_of h6a
    rw [ek, nI_toInt hk'] at h6b
    have e11 : m1.1 187 11 = nI R' := (f1.at (nRS (ρ := 25) rfl rfl)).trans n3
    have e70 : m1.1 214 (71 * i + 70) = nI k := (f1.at (nRS (ρ := 40) rfl rfl)).trans (h5.symm.trans ek)
    have e11' : m2.1 187 11 = nI R' := (f2.at (nRS (ρ := 25) rfl rfl)).trans e11
    have e0 : m2.1 0 11 = m1.1 0 11 := f2.at (nRS (ρ := 44) rfl rfl)
    rw [x3, ek, nI_toInt (by omega)] at j7
    rw [e11, e70] at b5
    by_cases hR0 : R' = 0
    · rw [if_pos (by omega)] at j7
      rw [if_pos (by rw [hR0]; rfl)] at b5
      exact ⟨0, R', e0.trans j7, b5, e11', n4, Or.inl rfl⟩
    · rw [if_neg (by omega), nI_rem (by omega) (by omega) (by omega)] at j7
      rw [if_neg (show ¬ nI R' = 0 from fun z => hR0 ((nI_eq (a := R') (b := 0) (by omega) (by omega)).mp z)), nI_rem (by omega) (by omega) (by omega)] at b5
      exact ⟨k % R', R', e0.trans j7, b5, e11', n4, Or.inr (Nat.mod_lt k (by omega))⟩
  exact ⟨g', (v.1, v.2.1, (fun k => m.1 (173 + 7 * i + 6) k), il, v.2.2.2.2), [], hc1.fx SS_21 f2 rfl, HM.tg h2' b1, ec2, em2, UnC.wt w2 ((f2.at (nRS (ρ := 53) rfl rfl)).trans j6), UnM.wt b4, h3, fun j hj => absurd hj (Nat.not_lt_zero j), (kp.fx f1 rfl rfl).fx f2 rfl rfl, nx2⟩
theorem og_again (c : Nat) (a : Int32) : Both ad d μX11_again μX12_again [.int a] (InvK (KX KG c)) (InvK (KX KG (c + 1))) := fun m I => by
  obtain ⟨w, I1, ⟨g, v, H, kd⟩, kb⟩ := I
  have kb0 := kb
  obtain ⟨⟨P, Q, hR, X⟩, lw, t, ht, h53, hk⟩ := kb
  refine (e_againC (d := d + 297) w hR.1).to ?_
  rintro r m1 (⟨i, hi, hx, hz, rfl, C⟩ | ⟨hx, rfl, e⟩)
  · have f1 := C.2.1
    refine ⟨1, rfl, (e_againM (d := d + 298) C.1).to ?_⟩
    rintro r m2 (⟨i', hi', hx', hz', rfl, M⟩ | ⟨hx', -⟩)
    · have hii : i' = i := ((nI_eq (a := i) (b := i') (by omega) (by omega)).mp (hx.symm.trans hx')).symm
      subst hii
      exact ⟨rfl, M.1, I1.f2 f1 M.2.1 rfl rfl, KGd.ag hi hz kd kb0 hR X C M, KB.ag hi hz kb0 C M⟩
    · refine absurd ?_ (hx' i hi hx)
      rw [f1.at (a := 215) (k := i) (nRS (ρ := 40) rfl rfl), f1.at (a := 216) (k := i) (nRS (ρ := 40) rfl rfl), f1.at (a := 187) (k := 53) (nRS (ρ := 45) rfl rfl)]
      exact (hk i hi).2.1.mp hz
  · obtain rfl := e.symm
    refine ⟨0, rfl, (e_againM (d := d + 298) w).to ?_⟩
    rintro r m2 (⟨i', hi', hx', hz', -⟩ | ⟨-, rfl, w2, f2⟩)
    · exact absurd (hx i' hi' hx') ((hk i' hi').2.1.mpr hz')
    · exact ⟨rfl, w2, I1.f2 (Fx.rf (S := RS [])) f2 rfl rfl, ⟨g, v, H, kd.fx f2 rfl⟩, KB.fd c (Fx.rf (S := RS [])) f2 kb0 rfl rfl⟩
end KAG
end
section
/-! CALLS: rule; and those that search, as far as what stands goes -/
section RUG
variable {ad : Nat → Nat} {d n : Nat} {m m' m1 m2 : Wm} {g : GS} {v : EV} {H : List GS} {S : List Nat}
theorem KG.ru (k : KG m) : RuK m := by
  obtain ⟨g, v, H, kd⟩ := k
  obtain ⟨-, -, ec, em, -⟩ := kd
  obtain ⟨P, Q, hR, cl, hX, hv⟩ := ec.2.2.2.2.2.2
  obtain ⟨-, -, -, -, -, -, q7, q8, q9⟩ := em
  refine ⟨P, Q, hR, cl, zE v, hX, q7, q8, ?_⟩
  rcases hv with hv | ⟨z1, z2, z3⟩
  · exact Or.inl hv
  · refine Or.inr ⟨z1, z2, fun lt => ?_⟩
    rw [z3 lt, prF_ch (tx := m.1 200) (tb := tE v) (fun k hk => q9 k hk)]
theorem KG.rr (c : Nat) : ∀ m, KX KG c m → ∃ P Q, RuR m P Q := fun m k => by
  obtain ⟨P, Q, h, -⟩ := k.1.ru
  exact ⟨P, Q, h⟩
theorem KG.rl (c : Nat) : RLH (KX KG c) (KX KG (c + 1)) := fun m m1 m2 I w1 w2 f1 f2 h => by
  obtain ⟨w, I1, ⟨g, v, H, kd⟩, kb⟩ := I
  have hr := h (KG.ru ⟨g, v, H, kd⟩)
  obtain ⟨hc, hm, ec, em, uc, um, zb, zh, kp, nx⟩ := kd
  obtain ⟨P, Q, hR, cl, z, hX, h27, hz, hv⟩ := hr
  obtain ⟨p1, p2, p3, p4, p5, p6, p7⟩ := ec
  obtain ⟨q1, q2, q3, q4, q5, q6, q7, q8, q9⟩ := em
  have ec2 : EC m2 (v.1, v.2.1, v.2.2.1, v.2.2.2.1, m2.1 200, z) := by
    refine ⟨(f2.at (nRS (ρ := 41) rfl rfl)).trans ((f1.at (nRS (ρ := 41) rfl rfl)).trans p1), (f2.at (nRS (ρ := 41) rfl rfl)).trans ((f1.at (nRS (ρ := 41) rfl rfl)).trans p2), p3, p4, fun k hk => (f2.at (nRS (ρ := 43) rfl rfl)).trans ((f1.at (nRS (ρ := 43) rfl rfl)).trans (p5 k hk)), ⟨fun s hs => ?_, p6.2⟩, P, Q, hR, cl, hX, hv⟩
    rw [f2.at (a := 3) (k := 5) (nRS (ρ := 42) rfl rfl), f1.at (a := 3) (k := 5) (nRS (ρ := 42) rfl rfl)]
    exact p6.1 s hs
  have em2 : EM m2 (v.1, v.2.1, v.2.2.1, v.2.2.2.1, m2.1 200, z) := ⟨(f2.at (nRS (ρ := 23) rfl rfl)).trans ((f1.at (nRS (ρ := 23) rfl rfl)).trans q1), (f2.at (nRS (ρ := 23) rfl rfl)).trans ((f1.at (nRS (ρ := 23) rfl rfl)).trans q2), q3, q4, fun k hk => (f2.at (nRS (ρ := 47) rfl rfl)).trans ((f1.at (nRS (ρ := 47) rfl rfl)).trans (q5 k hk)), fun s hs => (f2.at (nRS (ρ := 46) rfl rfl)).trans ((f1.at (nRS (ρ := 46) rfl rfl)).trans (q6 s hs)), h27, hz, fun _ _ => rfl⟩
  exact ⟨⟨g, (v.1, v.2.1, v.2.2.1, v.2.2.2.1, m2.1 200, z), H, (hc.fx SS_21 f1 rfl).fx SS_21 f2 rfl, (hm.fx f1 rfl rfl).fx f2 rfl rfl, ec2, em2, (uc.fx f1 rfl rfl).fx f2 rfl rfl, (um.fx f1 rfl).fx f2 rfl, zb, zh, (kp.fx f1 rfl rfl).fx f2 rfl rfl, (nx.fx f1 rfl rfl rfl).fx f2 rfl rfl rfl⟩, KB.rl c kb f1 f2⟩
/-- KGL without the model's league and its luck -/
def KGH : List Nat := [1, 4, 6, 13, 23, 25, 29, 40, 41, 42, 43, 44, 46, 47, 48, 52, 53]
theorem KGd.hms (h : KGd m g v H) (f : Fx (RS S) m m') (e : (S.all fun x => !(KGH.elem x)) = true) (hm2 : HM (nE v) m' g) : KGd m' g v H := by
  obtain ⟨hc, hm, ec, em, uc, um, zb, zh, kp, nx⟩ := h
  have q : ∀ ρ, KGH.elem ρ = true → S.elem ρ = false := fun ρ hρ => all_ne e hρ
  exact ⟨hc.fx SS_21 f (q 4 rfl), hm2, ec.fx f (all_sub e (by decide)), em.fx f (all_sub e (by decide)), uc.fx f (q 6 rfl) (q 53 rfl), um.fx f (q 29 rfl), zb, zh, kp.fx f (q 13 rfl) (q 40 rfl), nx.fx f (q 44 rfl) (q 52 rfl) (q 25 rfl)⟩
/-- a call that leaves the class's league alone, and gives the model's back -/
theorem og_w {μ μ' : MI} {as : List Value} {c : Nat} {A B : List Nat} (hC : ∀ m, WT m → Ct ad μ (d + 300) (.ref (ad 0) :: as) m (fun r m1 => WT m1 ∧ Fx (RS A) m m1 ∧ ∃ v : Int32, r = some (.int v)))
    (hM : ∀ m g n, WT m → HM n m g → m.1 187 1 = nI n → n ≤ 8 → RG m → Ct ad μ' (d + 300) (.ref (ad 187) :: as) m (RP B n m g))
    (a1 : (A.all fun x => !(KGL.elem x)) = true) (a2 : (A.all fun x => !(IL.elem x)) = true) (a3 : (A.all fun x => !(KLB.elem x)) = true)
    (b1 : (B.all fun x => !(KGH.elem x)) = true) (b2 : (B.all fun x => !(IL.elem x)) = true) (b3 : (B.all fun x => !(KLB.elem x)) = true) : BothW ad d μ μ' as (InvK (KX KG c)) (InvK (KX KG (c + 1))) := fun m I => by
  obtain ⟨w, I1, ⟨g, v, H, kd⟩, kb⟩ := I
  refine (hC m w).to ?_
  rintro _ m1 ⟨w1, f1, v1, rfl⟩
  have kd1 := kd.fx f1 a1
  have J1 := I1.fx f1 a2
  refine ⟨⟨_, rfl⟩, (hM m1 g (nE v) w1 kd1.2.1 kd1.2.2.2.1.1 kd1.2.2.1.2.2.1 J1.1).to ?_⟩
  rintro _ m2 ⟨w2, f2, hm2, v2, rfl⟩
  exact ⟨⟨_, rfl⟩, w2, J1.fx f2 b2, ⟨g, v, H, kd1.hms f2 b1 hm2⟩, KB.fd c f1 f2 kb a3 b3⟩
theorem og_rest (c : Nat) : BothW ad d μX11_rest μX12_rest [] (InvK (KX KG c)) (InvK (KX KG (c + 1))) := og_w (fun _ w => s_X11_rest w) (fun _ _ _ w hm hs h8 _ => r_rest (d := d + 122) w hm hs h8) rfl rfl rfl rfl rfl rfl
theorem og_mean (c : Nat) (x1 x2 : Int32) : BothW ad d μX11_mean μX12_mean [.int x1, .int x2] (InvK (KX KG c)) (InvK (KX KG (c + 1))) := og_w (fun _ w => s_X11_mean w) (fun _ _ _ w hm hs h8 _ => r_mean (d := d + 122) w hm hs h8) rfl rfl rfl rfl rfl rfl
theorem og_soon (c : Nat) (x1 x2 x3 : Int32) : BothW ad d μX11_soon μX12_soon [.int x1, .int x2, .int x3] (InvK (KX KG c)) (InvK (KX KG (c + 1))) := og_w (fun _ w => s_X11_soon w) (fun _ _ _ w hm hs h8 _ => r_soon (d := d + 122) w hm hs h8) rfl rfl rfl rfl rfl rfl
theorem og_top (c : Nat) (x1 x2 x3 : Int32) : BothW ad d μX11_top μX12_top [.int x1, .int x2, .int x3] (InvK (KX KG c)) (InvK (KX KG (c + 1))) := og_w (fun _ w => s_X11_top w) (fun _ _ _ w hm hs h8 _ => r_top (d := d + 122) w hm hs h8) rfl rfl rfl rfl rfl rfl
theorem og_quick (c : Nat) (x1 : Int32) : BothW ad d μX11_quick μX12_quick [.int x1] (InvK (KX KG c)) (InvK (KX KG (c + 1))) := og_w (fun _ w => s_X11_quick w) (fun _ _ _ w hm hs h8 _ => r_quick (d := d + 122) w hm hs h8) rfl rfl rfl rfl rfl rfl
theorem og_best (c : Nat) (x1 x2 : Int32) : BothW ad d μX11_best μX12_best [.int x1, .int x2] (InvK (KX KG c)) (InvK (KX KG (c + 1))) := og_w (fun _ w => s_X11_best w) (fun _ _ _ w hm hs h8 _ => r_best (d := d + 122) w hm hs h8) rfl rfl rfl rfl rfl rfl
theorem og_even (c : Nat) (x1 : Int32) : BothW ad d μX11_even μX12_even [.int x1] (InvK (KX KG c)) (InvK (KX KG (c + 1))) := og_w (fun _ w => s_X11_even w) (fun _ _ _ w hm hs h8 _ => r_even (d := d + 122) w hm hs h8) rfl rfl rfl rfl rfl rfl
theorem og_all (c : Nat) : BothW ad d μX11_all μX12_all [] (InvK (KX KG c)) (InvK (KX KG (c + 1))) := og_w (fun _ w => s_X11_all w) (fun _ _ _ w hm hs h8 _ => r_all (d := d + 122) w hm hs h8) rfl rfl rfl rfl rfl rfl
end RUG
/-! CALLS: wins, hopes, as far as what stands goes -/
section WNX
variable {ad : Nat → Nat} {n : Nat} {m : Wm} {g : GS}
theorem RG.ten (h : RG m) (h11 : ¬ m.1 187 11 = 0) : 1 ≤ (m.1 187 10).toInt := by
  have z0 : (0 : Int32).toInt = 0 := rfl
  rcases h with q | q
  · exact absurd ((fa_eq _ _).mpr (q.trans z0.symm)) h11
  · exact q
theorem r_wins {d : Nat} {x1 x2 x3 : Int32} (w : WT m) (hm : HM n m g) (h8 : n ≤ 8) (hR : RG m) : Ct ad μX12_wins (d + 191) [.ref (ad 187), .int x1, .int x2, .int x3] m (RP [20, 22, 24, 26, 28, 36, 37, 49] n m g) := by
  have w0 : WT (uI m 187 17 0) := w.n rfl
  have f0 : Fx (RS [20, 22, 24, 26, 28, 36, 37, 49]) m (uI m 187 17 0) := Fx.rf.i rfl
  have hm0 : HM n (uI m 187 17 0) g := hm
  have nn : ∀ x : Int32, RP [20, 22, 24, 26, 28, 36, 37, 49] n m g (some (.int x)) (uI m 187 17 0) := fun x => ⟨w0, f0, hm0, x, rfl⟩
  refine v_X12_wins (d := d + 190) ((isSideH (d := d + 189) w0).to ?_)
  rintro _ m1 ⟨eq, v1, rfl, -⟩
  obtain rfl := eq.symm
  refine ⟨v1, rfl, fun _ => nn _, fun _ => (inH (lo := 1) (hi := 6) rfl rfl).to ?_⟩
  rintro _ m1 ⟨eq, v2, rfl, y2⟩
  obtain rfl := eq.symm
  refine ⟨v2, rfl, fun _ => nn _, fun n2 => (inH (lo := 0) (hi := x2) rfl rfl).to ?_⟩
  rintro _ m1 ⟨eq, v3, rfl, -⟩
  obtain rfl := eq.symm
  refine ⟨v3, rfl, fun _ => nn _, fun _ => ⟨fun n11 => ?_, fun _ => nn _⟩⟩
  have z1 : (1 : Int32).toInt = 1 := rfl
  have z6 : (6 : Int32).toInt = 6 := rfl
  have y2' := y2.resolve_left n2
  refine (r_chanceOfWins (d := d) h8 w0 hm0 (by omega) (by omega) (RG.ten (m := m) hR n11)).to ?_
  rintro _ m2 ⟨w2, f2, hm2, v4, rfl⟩
  refine ⟨v4, rfl, ?_⟩
  have w3 : WT (uI m2 187 16 (0 : Int32)) := w2.t rfl (by decide) (by decide)
  have f3 : Fx (RS [20, 22, 24, 26, 28, 36, 37, 49]) m (uI m2 187 16 (0 : Int32)) := (f0.tr f2 (RS_sub rfl)).i rfl
  have hm3 : HM n (uI m2 187 16 (0 : Int32)) g := hm2
  refine (s_X12_power100 w3 (by omega) (by omega)).to ?_
  rintro _ m4 ⟨w4, f4, v5, rfl, n5⟩
  have e16 : (m4.1 187 16).toInt = 0 := by
    rw [f4.at (a := 187) (k := 16) (nRS (ρ := 26) rfl rfl), u_eq]
    rfl
  refine ⟨v5, rfl, (s_X12_tellPart (d := d + 50) w4 n5 (by omega)).to ?_⟩
  rintro _ m5 ⟨w5, f5, rfl, -⟩
  exact ⟨rfl, w5, (f3.tr f4 (RS_sub rfl)).tr f5 (RS_sub rfl), (hm3.fx f4 rfl rfl).fx f5 rfl rfl, 0, rfl⟩
theorem r_hopes {d : Nat} {x1 : Int32} (w : WT m) (hm : HM n m g) (h8 : n ≤ 8) (hR : RG m) : Ct ad μX12_hopes (d + 191) [.ref (ad 187), .int x1] m (RP [20, 22, 24, 26, 28, 36, 37, 49] n m g) := by
  have w0 : WT (uI m 187 17 0) := w.n rfl
  have f0 : Fx (RS [20, 22, 24, 26, 28, 36, 37, 49]) m (uI m 187 17 0) := Fx.rf.i rfl
  have hm0 : HM n (uI m 187 17 0) g := hm
  have nn : ∀ x : Int32, RP [20, 22, 24, 26, 28, 36, 37, 49] n m g (some (.int x)) (uI m 187 17 0) := fun x => ⟨w0, f0, hm0, x, rfl⟩
  refine v_X12_hopes (d := d + 190) ((inH (lo := 1) (hi := 6) rfl rfl).to ?_)
  rintro _ m1 ⟨eq, v2, rfl, y2⟩
  obtain rfl := eq.symm
  refine ⟨v2, rfl, fun _ => nn _, fun n2 => ⟨fun n11 => ?_, fun _ => nn _⟩⟩
  have z1 : (1 : Int32).toInt = 1 := rfl
  have z6 : (6 : Int32).toInt = 6 := rfl
  have y2' := y2.resolve_left n2
  have wa : WT (uI (uI (uI m 187 17 0) 187 48 (256 : Int32)) 187 49 (0 : Int32)) := (w0.n rfl).n rfl
  have fa : Fx (RS [20, 22, 24, 26, 28, 36, 37, 49]) m (uI (uI (uI m 187 17 0) 187 48 (256 : Int32)) 187 49 (0 : Int32)) := (f0.i rfl).i rfl
  have hma : HM n (uI (uI (uI m 187 17 0) 187 48 (256 : Int32)) 187 49 (0 : Int32)) g := hm
  refine (r_hopeOf (d := d) h8 wa hma (by omega) (by omega) (RG.ten (m := m) hR n11)).to ?_
  rintro _ m2 ⟨w2, f2, hm2, v4, rfl⟩
  refine ⟨v4, rfl, ?_⟩
  have w3 : WT (uI m2 187 16 (0 : Int32)) := w2.t rfl (by decide) (by decide)
  have f3 : Fx (RS [20, 22, 24, 26, 28, 36, 37, 49]) m (uI m2 187 16 (0 : Int32)) := (fa.tr f2 (RS_sub rfl)).i rfl
  have hm3 : HM n (uI m2 187 16 (0 : Int32)) g := hm2
  refine (s_X12_power100 w3 (by omega) (by omega)).to ?_
  rintro _ m4 ⟨w4, f4, v5, rfl, n5⟩
  have e16 : (m4.1 187 16).toInt = 0 := by
    rw [f4.at (a := 187) (k := 16) (nRS (ρ := 26) rfl rfl), u_eq]
    rfl
  refine ⟨v5, rfl, (s_X12_tellPart (d := d + 50) w4 n5 (by omega)).to ?_⟩
  rintro _ m5 ⟨w5, f5, rfl, p5⟩
  refine ⟨rfl, (s_X12_tell w5 (by omega)).to ?_⟩
  rintro _ m6 ⟨w6, f6, rfl, p6⟩
  refine ⟨rfl, (s_X12_tell w6 (by omega)).to ?_⟩
  rintro _ m7 ⟨w7, f7, rfl, -⟩
  exact ⟨rfl, w7, (((f3.tr f4 (RS_sub rfl)).tr f5 (RS_sub rfl)).tr f6 (RS_sub rfl)).tr f7 (RS_sub rfl), (((hm3.fx f4 rfl rfl).fx f5 rfl rfl).fx f6 rfl rfl).fx f7 rfl rfl, 0, rfl⟩
theorem og_wins {d : Nat} (c : Nat) (x1 x2 x3 : Int32) : BothW ad d μX11_wins μX12_wins [.int x1, .int x2, .int x3] (InvK (KX KG c)) (InvK (KX KG (c + 1))) := og_w (fun _ w => s_X11_wins w) (fun _ _ _ w hm _ h8 hR => r_wins (d := d + 109) w hm h8 hR) rfl rfl rfl rfl rfl rfl
theorem og_hopes {d : Nat} (c : Nat) (x1 : Int32) : BothW ad d μX11_hopes μX12_hopes [.int x1] (InvK (KX KG c)) (InvK (KX KG (c + 1))) := og_w (fun _ w => s_X11_hopes w) (fun _ _ _ w hm _ h8 hR => r_hopes (d := d + 109) w hm h8 hR) rfl rfl rfl rfl rfl rfl
end WNX
/-! LAWS AND ILLNESS THAT ARE CHANGED AND GIVEN BACK -/
section PYL
variable {ad : Nat → Nat} {d : Nat} {m m' m1 : Wm} {g : GS} {v : EV} {H : List GS} {p : PLN} {S : List Nat}
theorem run_sv {lk : Bool} : ∀ (k j : Nat) (T : RSt), (runR lk false v p k j T).2.1 = T.2.1 := by
  intro k
  induction k with
  | zero => intro j T; rfl
  | succ k ih => intro j T; exact ih (j + 1) (stepR lk false v p j T)
theorem rds_sv {lk : Bool} : ∀ (k ρ : Nat) (T : RSt), (rdsR lk false v p k ρ T).2.1 = T.2.1 := by
  intro k
  induction k with
  | zero => intro ρ T; rfl
  | succ k ih => intro ρ T; exact (ih _ _).trans (run_sv _ _ _)
theorem xor2 {a b : Int32} : (a ^^^ b) ^^^ b = a := b_ext (fun i _ => by rw [b_xor, b_xor, Bool.xor_assoc, Bool.xor_self, Bool.xor_false])
theorem EC.ke (h : EC m v) (f : Fx (RS S) m m') (e : (S.all fun x => !(([1, 41] : List Nat).elem x)) = true) (h4 : ∀ k, k < 5 → m'.1 4 k = m.1 4 k) (h35 : m'.1 3 5 = m.1 3 5) : EC m' v := by
  obtain ⟨p1, p2, p3, p4, p5, p6, p7⟩ := h
  refine ⟨(f.at (nRS (all_ne e (ρ := 41) rfl) rfl)).trans p1, (f.at (nRS (all_ne e (ρ := 41) rfl) rfl)).trans p2, p3, p4, fun k hk => (h4 k hk).trans (p5 k hk), ⟨fun s hs => ?_, p6.2⟩, p7.fx f (all_ne e (ρ := 1) rfl)⟩
  rw [h35]
  exact p6.1 s hs
theorem EM.ke (h : EM m v) (f : Fx (RS S) m m') (e : (S.all fun x => !(([23, 48] : List Nat).elem x)) = true) (h4 : ∀ k, k < 5 → m'.1 193 k = m.1 193 k) (h189 : ∀ s, s < nE v → m'.1 189 s = if iE v s = true then 1 else 0) : EM m' v := by
  obtain ⟨q1, q2, q3, q4, q5, q6, q7, q8, q9⟩ := h
  exact ⟨(f.at (nRS (all_ne e (ρ := 23) rfl) rfl)).trans q1, (f.at (nRS (all_ne e (ρ := 23) rfl) rfl)).trans q2, q3, q4, fun k hk => (h4 k hk).trans (q5 k hk), h189, (f.at (nRS (all_ne e (ρ := 48) rfl) rfl)).trans q7, q8, fun k hk => (f.at (nRS (all_ne e (ρ := 48) rfl) rfl)).trans (q9 k hk)⟩
end PYL
/-! THE SORT OF THE LAW, CHANGED AND GIVEN BACK -/
section LWG
variable {ad : Nat → Nat} {d : Nat} {m m0 : Wm} {g : GS} {v : EV} {H : List GS} {p : PLN}
theorem EM.l0 {y x : Int32} (h : EM m (setL v 0 y)) : EM (uI m 193 0 x) (setL v 0 x) := by
  obtain ⟨q1, q2, q3, q4, q5, q6, q7⟩ := h
  refine ⟨q1, q2, q3, q4, fun k hk => ?_, q6, q7⟩
  have e := q5 k hk
  show (uI m 193 0 x).1 193 k = upd (lE v) 0 x k
  have e' : m.1 193 k = upd (lE v) 0 y k := e
  rw [upd_at] at e' ⊢
  by_cases q : k = 0
  · rw [if_pos q, q, u_eq]
  · rw [if_neg q, u_ne (fun z => q z.2), e', if_neg q]
theorem EM.lz (h : EM m (setL v 0 (lE v 0))) : EM m v := by
  obtain ⟨q1, q2, q3, q4, q5, q6, q7⟩ := h
  refine ⟨q1, q2, q3, q4, fun k hk => ?_, q6, q7⟩
  have e' : m.1 193 k = upd (lE v) 0 (lE v 0) k := q5 k hk
  rw [e', upd_at]
  by_cases q : k = 0
  · rw [if_pos q, q]
  · rw [if_neg q]
theorem EM.la (h : EM m v) : EM m (setL v 0 (lE v 0)) := by
  obtain ⟨q1, q2, q3, q4, q5, q6, q7⟩ := h
  refine ⟨q1, q2, q3, q4, fun k hk => ?_, q6, q7⟩
  show m.1 193 k = upd (lE v) 0 (lE v 0) k
  rw [q5 k hk, upd_at]
  by_cases q : k = 0
  · rw [if_pos q, q]
  · rw [if_neg q]
end LWG
end
section
/-! CALLS: judge -/
def GE (g g' : GS) : Prop := g.1 = g'.1 ∧ g.2.1 = g'.2.1 ∧ g.2.2.1 = g'.2.2.1
/-- a game that is told by the number c can be one -/
abbrev jOK (n c : Nat) : Prop := c / 100 ≤ 2 ∧ c / 10 % 10 < c % 10 ∧ c % 10 < n
def jdS (v : EV) (c : Nat) (g : GS) : GS := stlG true v (c / 10 % 10) (c % 10) (wnG v g (c / 10 % 10) (c % 10) (nI (c / 100))) g
def jdF (v : EV) (cd : Nat → Nat) : Nat → Nat → GS → Int32
  | 0, _, _ => -2
  | j + 1, k, g => if jOK (nE v) (cd k) then jdF v cd j (k + 1) (jdS v (cd k) g) else nI k
def cdG (x : Int32) (k : Nat) : Nat := ((x.toUInt32 >>> ((nI (10 * k)).toUInt32 &&& Int32.toUInt32 31)).toInt32 &&& (1023 : Int32)).toNatClampNeg
def jdA (v : EV) (x1 x2 : Int32) (g : GS) : Int32 := if 0 ≤ x1.toInt ∧ x1.toInt ≤ 3 then jdF v (cdG x2) x1.toNatClampNeg 0 g else -1
section GEE
variable {g g' : GS} {v : EV} {a b : Nat} {x th : Int32} {cn : Bool}
theorem wnG_E (h : GE g g') : wnG v g a b th = wnG v g' a b th := by
  unfold wnG pwG
  rw [h.1, h.2.1, h.2.2]
theorem thG_E : GE (thG th a b g) g := ⟨rfl, rfl, rfl⟩
theorem ptG_E (h : GE g g') : GE (ptG a b x g) (ptG a b x g') := by
  obtain ⟨g1, g2, g3, g4⟩ := g
  obtain ⟨k1, k2, k3, k4⟩ := g'
  obtain ⟨h1, h2, h3⟩ := h
  dsimp only at h1 h2 h3
  subst h1 h2 h3
  exact ⟨rfl, rfl, rfl⟩
theorem tchG_E (h : GE g g') : GE (tchG cn v a b g) (tchG cn v a b g') := by
  obtain ⟨g1, g2, g3, g4⟩ := g
  obtain ⟨k1, k2, k3, k4⟩ := g'
  obtain ⟨h1, h2, h3⟩ := h
  dsimp only at h1 h2 h3
  subst h1 h2 h3
  unfold tchG gainG
  dsimp only
  by_cases c : artG g1 a b (aE v) = -1
  · rw [if_pos c, if_pos c]
    exact ⟨rfl, rfl, rfl⟩
  · rw [if_neg c, if_neg c]
    exact ⟨rfl, rfl, rfl⟩
theorem stlG_E (h : GE g g') : GE (stlG cn v a b x g) (stlG cn v a b x g') := by
  have hp : GE (if cn = true then ptG a b x g else g) (if cn = true then ptG a b x g' else g') := by
    by_cases c : cn = true
    · rw [if_pos c, if_pos c]
      exact ptG_E h
    · rw [if_neg c, if_neg c]
      exact h
  unfold stlG
  generalize (if cn = true then ptG a b x g else g) = p at hp
  generalize (if cn = true then ptG a b x g' else g') = p' at hp
  by_cases c2 : x = 2
  · rw [if_pos c2, if_pos c2]
    exact hp
  · rw [if_neg c2, if_neg c2]
    generalize (if x = 0 then a else b) = wi
    generalize (if x = 0 then b else a) = lo
    have h1 : GE (stl1 cn v wi lo p) (stl1 cn v wi lo p') := by
      unfold stl1
      by_cases c : lE v 0 = 0 ∨ lE v 0 = 2
      · rw [if_pos c, if_pos c]
        exact tchG_E hp
      · rw [if_neg c, if_neg c]
        exact hp
    unfold stl2
    by_cases c : lE v 0 = 1 ∨ lE v 0 = 2
    · rw [if_pos c, if_pos c]
      exact tchG_E h1
    · rw [if_neg c, if_neg c]
      exact h1
theorem jdS_E {c : Nat} (h : GE g g') : GE (jdS v c g) (jdS v c g') := by
  unfold jdS
  rw [wnG_E h]
  exact stlG_E h
theorem jdF_E {cd : Nat → Nat} : ∀ (j k : Nat) (g g' : GS), GE g g' → jdF v cd j k g = jdF v cd j k g' := by
  intro j
  induction j with
  | zero => intro k g g' _; rfl
  | succ j ih =>
    intro k g g' h
    show (if jOK (nE v) (cd k) then jdF v cd j (k + 1) (jdS v (cd k) g) else nI k) = (if jOK (nE v) (cd k) then jdF v cd j (k + 1) (jdS v (cd k) g') else nI k)
    rw [ih (k + 1) _ _ (jdS_E h)]
end GEE
section JDG
variable {ad : Nat → Nat} {d : Nat} {m m0 : Wm} {g : GS} {v : EV} {H : List GS}
theorem nI_dv {a b : Nat} (ha : a < 2147483648) (hb : b < 2147483648) : nI a / nI b = nI (a / b) := by
  have h := Nat.div_le_self a b
  refine (fa_eq _ _).mpr ?_
  rw [Int32.toInt_div, nI_toInt ha, nI_toInt hb, nI_toInt (by omega)]
  have e : (a : Int).tdiv (b : Int) = ((a / b : Nat) : Int) := rfl
  rw [e]
  generalize a / b = q at h ⊢
  exact bm32 (by omega) (by omega)
theorem dv10 {a : Nat} (ha : a < 2147483648) : nI a / (10 : Int32) = nI (a / 10) := nI_dv (b := 10) ha (by decide)
theorem dv100 {a : Nat} (ha : a < 2147483648) : nI a / (100 : Int32) = nI (a / 100) := nI_dv (b := 100) ha (by decide)
theorem rem10 {a : Nat} (ha : a < 2147483648) : nI a - nI a / (10 : Int32) * (10 : Int32) = nI (a % 10) := nI_rem (G := 10) ha (by decide) (by decide)
theorem cd_eq (x : Int32) (k : Nat) : ((x.toUInt32 >>> ((nI (10 * k)).toUInt32 &&& Int32.toUInt32 31)).toInt32 &&& (1023 : Int32)) = nI (cdG x k) ∧ cdG x k < 1024 := by
  have h := t_and1023 ((x.toUInt32 >>> ((nI (10 * k)).toUInt32 &&& Int32.toUInt32 31)).toInt32)
  unfold cdG
  generalize ((x.toUInt32 >>> ((nI (10 * k)).toUInt32 &&& Int32.toUInt32 31)).toInt32 &&& (1023 : Int32)) = y at h ⊢
  obtain ⟨j, hj, rfl⟩ := zn_of h.1
  rw [nI_toInt hj] at h
  rw [nI_clamp hj]
  exact ⟨rfl, by omega⟩
theorem b_1023 : ∀ i, i < 32 → bt 1023 i = decide (i < 10) := by decide +kernel
theorem cd_M (x : Int32) {k : Nat} (hk : k ≤ 2) : ((x >>> (nI (10 * k) &&& 31)) &&& (1023 : Int32)) = nI (cdG x k) := by
  rw [← (cd_eq x k).1]
  refine b_ext (fun i hi => ?_)
  rw [b_and, b_and, b_sshr (10 * k) (by omega) x hi, b_ushr (10 * k) (by omega) x i, b_1023 i hi]
  by_cases q : i < 10
  · rw [if_pos (by omega)]
  · rw [decide_eq_false q, Bool.and_false, Bool.and_false]
theorem th_of {c : Nat} (h : c ≤ 2) : nI c = 0 ∨ nI c = 1 ∨ nI c = 2 ∨ nI c = 3 := thr_of (by rw [nI_toInt (by omega)]; omega)
theorem e_told {c : Nat} (hc : c < 1024) (w : WT m) (h : HC 26 m g) (hE : EC m v) : Ct ad μX11_playTold (d + 5) [.ref (ad 0), .int (nI c)] m (fun r m' => WT m' ∧ Fx (RS [2, 5, 14]) m m' ∧ ((jOK (nE v) c ∧ r = some (.int 1) ∧ HC 26 m' (jdS v c g)) ∨ (¬ jOK (nE v) c ∧ r = some (.int 0) ∧ m' = m))) := by
  have n8 := hE.2.2.1
  have hG : GR 5 := Or.inr (Or.inr (Or.inl rfl))
  have no : ¬ jOK (nE v) c → WT m ∧ Fx (RS [2, 5, 14]) m m ∧ ((jOK (nE v) c ∧ some (Value.int 0) = some (.int 1) ∧ HC 26 m (jdS v c g)) ∨ (¬ jOK (nE v) c ∧ some (Value.int 0) = some (.int 0) ∧ m = m)) := fun q => ⟨w, Fx.rf, Or.inr ⟨q, rfl, rfl⟩⟩
  refine v_X11_playTold (d := d + 4) ?_
  rw [rem10 (by omega), dv10 (by omega), rem10 (by omega), dv100 (by omega)]
  refine ⟨fun c2 => no (fun q => ?_), fun c2 => ⟨fun c3 => no (fun q => ?_), fun c3 => (meetC (d := d + 3) hE.1 n8).to ?_⟩⟩
  · have := (lt_l 2 2 rfl (by decide) (by omega)).mp c2
    have := q.1
    omega
  · have := (nI_leI (a := c % 10) (b := c / 10 % 10) (by omega) (by omega)).mp c3
    have := q.2.1
    omega
  · have k2 : c / 100 ≤ 2 := Nat.le_of_not_lt (fun z => c2 ((lt_l 2 2 rfl (by decide) (by omega)).mpr z))
    have k3 : c / 10 % 10 < c % 10 := Nat.lt_of_not_le (fun z => c3 ((nI_leI (a := c % 10) (b := c / 10 % 10) (by omega) (by omega)).mpr z))
    rintro _ m1 ⟨eq, v1, rfl, y1, y2⟩
    obtain rfl := eq.symm
    refine ⟨v1, rfl, fun q => ?_, fun q => no (fun z => ?_)⟩
    · have hT := (y2 q).2.1.2
      rw [nI_toInt (by omega)] at hT
      have hj : jOK (nE v) c := ⟨k2, k3, by omega⟩
      refine (resultC (d := d) SS_26 hG w h hE (by omega) (by omega) (th_of k2)).to ?_
      rintro _ m2 ⟨w2, f2, rfl⟩
      refine ⟨_, rfl, (settleC (d := d + 1) (cn := true) SS_26 hG w2 (h.fx SS_26 f2 rfl) (hE.fx f2 rfl) (by omega) (by omega) (by omega) (by decide)).to ?_⟩
      rintro _ m3 ⟨rfl, w3, f3, h3⟩
      exact ⟨rfl, w3, (Fx.tr Fx.rf f2 (RS_sub rfl)).tr f3 (RS_sub rfl), Or.inl ⟨hj, rfl, h3⟩⟩
    · have z3 := z.2.2
      exact y1 q ⟨InN.nI (by omega) (by omega), InN.nI z3 (by omega), nI_r (by omega) (by omega) (by omega)⟩
/-- the class's judge() -/
def jcQ (v : EV) (m : Wm) (a : Int32) (r : Option Value) (m' : Wm) : Prop := WT m' ∧ Fx (RS [2, 5, 9, 14]) m m' ∧ r = some (.int a)
theorem jc_67 {a : Int32} {m1 : Wm} (w1 : WT m1) (f1 : Fx (RS [2, 5, 14]) m0 m1) : AW ad E0 μX11_judge (d + 6) (jcQ v m0 a) 67 [(0, .ref (ad 0)), (3, .int a)] [] m1 := by
  refine g_X11_judge_67 (d := d + 5) ((s_X1_total (d := d + 3) w1 SS_26).to ?_)
  rintro _ m2 ⟨w2, f2, v2, rfl⟩
  refine ⟨v2, rfl, (s_X1_total (d := d + 3) w2 SS_21).to ?_⟩
  rintro _ m3 ⟨w3, f3, v3, rfl⟩
  refine ⟨v3, rfl, (s_X11_tell w3).to ?_⟩
  rintro _ m4 ⟨w4, f4, rfl⟩
  exact ⟨rfl, w4, (((Fx.tr Fx.rf f1 (RS_sub rfl)).tr f2 (RS_sub rfl)).tr f3 (RS_sub rfl)).tr f4 (RS_sub rfl), rfl⟩
theorem jc_28 {x2 : Int32} {N : Nat} (hN : N ≤ 3) (hE : EC m0 v) : ∀ (j k : Nat) (gC : GS) (m1 : Wm), k + j = N → WT m1 → Fx (RS [2, 5, 14]) m0 m1 → HC 26 m1 gC → AW ad E0 μX11_judge (d + 6) (jcQ v m0 (jdF v (cdG x2) j k gC)) 28 [(0, .ref (ad 0)), (1, .int (nI N)), (2, .int x2), (3, .int (-2)), (4, .int (nI k))] [] m1 := by
  intro j
  induction j with
  | zero =>
    intro k gC m1 hk w1 f1 h1
    exact g_X11_judge_28 (d := d + 5) ⟨fun _ => jc_67 w1 f1, fun c => absurd ((nI_leI (a := N) (b := k) (by omega) (by omega)).mpr (by omega)) c⟩
  | succ j ih =>
    intro k gC m1 hk w1 f1 h1
    obtain ⟨e1, e2⟩ := cd_eq x2 k
    refine g_X11_judge_28 (d := d + 5) ⟨fun c => absurd ((nI_leI (a := N) (b := k) (by omega) (by omega)).mp c) (by omega), fun _ => ⟨fun c => absurd rfl c, fun _ => ?_⟩⟩
    rw [l_mul 10 10 rfl, e1]
    refine (e_told (d := d) e2 w1 h1 (hE.fx f1 rfl)).to ?_
    rintro r m2 ⟨w2, f2, ⟨hj, rfl, h2⟩ | ⟨hj, rfl, e⟩⟩
    · refine ⟨1, rfl, fun _ => ?_, fun z => absurd z (by decide)⟩
      have e3 : jdF v (cdG x2) (j + 1) k gC = jdF v (cdG x2) j (k + 1) (jdS v (cdG x2 k) gC) := if_pos hj
      rw [e3, nI_1]
      exact ih (k + 1) _ m2 (by omega) w2 (f1.tr f2 (fun _ _ h => h)) h2
    · refine ⟨0, rfl, fun z => absurd rfl z, fun _ => ?_⟩
      have e3 : jdF v (cdG x2) (j + 1) k gC = nI k := if_neg hj
      rw [e3, nI_1]
      have F := f1.tr f2 (fun _ _ h => h)
      refine g_X11_judge_28 (d := d + 5) ⟨fun _ => jc_67 w2 F, fun _ => ⟨fun _ => jc_67 w2 F, fun z => ?_⟩⟩
      have h3 := congrArg Int32.toInt z
      rw [nI_toInt (by omega)] at h3
      have z2 : (-2 : Int32).toInt = -2 := rfl
      omega
theorem e_judgeC {x1 x2 : Int32} (w : WT m) (hc : HC 21 m g) (hE : EC m v) : Ct ad μX11_judge (d + 6) [.ref (ad 0), .int x1, .int x2] m (jcQ v m (jdA v x1 x2 g)) := by
  refine v_X11_judge (d := d + 5) ⟨fun c => ⟨w, Fx.rf, ?_⟩, fun c => ⟨fun c2 => (copyC (d := d + 4) w SS_26 SS_21 (Or.inl (by decide)) hc).to ?_, fun c2 => ⟨w, Fx.rf, ?_⟩⟩⟩
  · have := y_ltr (n := 0) rfl c
    unfold jdA
    rw [if_neg (by omega)]
  · have k0 := y_nltr (n := 0) rfl c
    have k3 := y_ler (n := 3) rfl c2
    obtain ⟨N, hN, rfl⟩ := zn_of k0
    rintro _ m1 ⟨rfl, w1, f1, h1⟩
    have ej : jdA v (nI N) x2 g = jdF v (cdG x2) N 0 g := by
      unfold jdA
      rw [if_pos ⟨k0, k3⟩, nI_clamp hN]
    rw [nI_toInt hN] at k3
    rw [ej]
    exact ⟨rfl, jc_28 (d := d) (by omega) hE N 0 g m1 (by omega) w1 (Fx.tr Fx.rf f1 (RS_sub rfl)) h1⟩
  · have := y_nler (n := 3) rfl c2
    unfold jdA
    rw [if_neg (by omega)]
end JDG
/-! CALLS: judge, the model; both -/
section JDM
variable {ad : Nat → Nat} {d : Nat} {m m0 : Wm} {g : GS} {v : EV} {H : List GS}
theorem goG_jd {c : Nat} : GE (jdS v c g) (goG false v (c / 10 % 10) (c % 10) (nI (c / 100)) g) := by
  have nb : ¬ byG false v (nI (c / 100)) := fun z => absurd z.1 (by decide)
  unfold jdS goG wonG drwG
  rw [if_neg nb, if_neg nb]
  exact stlG_E ⟨rfl, rfl, rfl⟩
def jmQ (v : EV) (m : Wm) (g : GS) (a : Int32) (r : Option Value) (m' : Wm) : Prop := WT m' ∧ Fx (RS [20, 22, 24, 26, 28, 30, 49]) m m' ∧ HM (nE v) m' g ∧ r = some (.int a)
theorem jm_138 {a x3 : Int32} {m1 : Wm} (w1 : WT m1) (f1 : Fx (RS [20, 22, 24, 26, 28, 30, 49]) m0 m1) (hL : HL (nE v) 202 0 m1 g) : AW ad E0 μX12_judge (d + 171) (jmQ v m0 g a) 138 [(0, .ref (ad 187)), (3, .int x3), (4, .int a)] [] m1 := by
  refine g_X12_judge_138 (d := d + 170) ((s_X12_sumOfAll (d := d + 169) w1).to ?_)
  rintro _ m2 ⟨w2, f2, v2, rfl⟩
  refine ⟨v2, rfl, (bringH (x := 0) (na := 57) rfl (by decide) (by decide) w2 (hL.fx (ρ := 30) f2 (fun _ => rfl) rfl) (by decide)).to ?_⟩
  rintro _ m3 ⟨rfl, w3, f3, hm3⟩
  have w4 : WT (uI m3 187 16 (0 : Int32)) := w3.t rfl (by decide) (by decide)
  have f4 : Fx (RS [26]) m3 (uI m3 187 16 (0 : Int32)) := Fx.rf.i rfl
  have e16 : ((uI m3 187 16 (0 : Int32)).1 187 16).toInt = 0 := by
    rw [u_eq]
    rfl
  refine ⟨rfl, (s_X12_tell w4 (by omega)).to ?_⟩
  rintro _ m5 ⟨w5, f5, rfl, -⟩
  exact ⟨rfl, w5, (((f1.tr f2 (RS_sub rfl)).tr f3 (RS_sub rfl)).tr f4 (RS_sub rfl)).tr f5 (RS_sub rfl), (hm3.fx f4 rfl rfl).fx f5 rfl rfl, rfl⟩
set_option maxHeartbeats 1000000 in
theorem jm_40 {x2 x3 : Int32} {N : Nat} (hN : N ≤ 3) (n8 : nE v ≤ 8) : ∀ (j k : Nat) (gM : GS) (m1 : Wm), k + j = N → WT m1 → Fx (RS [20, 22, 24, 26, 28, 30, 49]) m0 m1 → HM (nE v) m1 gM → EM m1 v → HL (nE v) 202 0 m1 g → AW ad E0 μX12_judge (d + 171) (jmQ v m0 g (jdF v (cdG x2) j k gM)) 40 [(0, .ref (ad 187)), (1, .int (nI N)), (2, .int x2), (3, .int x3), (4, .int (-2)), (5, .int (nI k))] [] m1 := by
  intro j
  induction j with
  | zero =>
    intro k gM m1 hk w1 f1 hm em hL
    exact g_X12_judge_40 (d := d + 170) ⟨fun _ => jm_138 w1 f1 hL, fun c => absurd ((nI_leI (a := N) (b := k) (by omega) (by omega)).mpr (by omega)) c⟩
  | succ j ih =>
    intro k gM m1 hk w1 f1 hm em hL
    have e2 := (cd_eq x2 k).2
    have bad : ¬ jOK (nE v) (cdG x2 k) → AW ad E0 μX12_judge (d + 171) (jmQ v m0 g (jdF v (cdG x2) (j + 1) k gM)) 40 [(0, .ref (ad 187)), (1, .int (nI N)), (2, .int x2), (3, .int x3), (4, .int (nI k)), (5, .int (nI k + (1 : Int32)))] [] m1 := fun hj => by
      have e3 : jdF v (cdG x2) (j + 1) k gM = nI k := if_neg hj
      rw [e3, nI_1]
      refine g_X12_judge_40 (d := d + 170) ⟨fun _ => jm_138 w1 f1 hL, fun _ => ⟨fun _ => jm_138 w1 f1 hL, fun z => ?_⟩⟩
      have h3 := congrArg Int32.toInt z
      rw [nI_toInt (by omega)] at h3
      have z2 : (-2 : Int32).toInt = -2 := rfl
      omega
    refine g_X12_judge_40 (d := d + 170) ⟨fun c => absurd ((nI_leI (a := N) (b := k) (by omega) (by omega)).mp c) (by omega), fun _ => ⟨fun c => absurd rfl c, fun _ => ?_⟩⟩
    rw [l_mul 10 10 rfl, cd_M x2 (k := k) (by omega), rem10 (by omega), dv10 (by omega), rem10 (by omega), dv100 (by omega)]
    refine ⟨fun c2 => bad (fun q => ?_), fun c2 => (twoM (d := d + 168) em.1 n8).to ?_⟩
    · have := (lt_l 2 2 rfl (by decide) (by omega)).mp c2
      have := q.1
      omega
    · have k2 : cdG x2 k / 100 ≤ 2 := Nat.le_of_not_lt (fun z => c2 ((lt_l 2 2 rfl (by decide) (by omega)).mpr z))
      rintro _ m2 ⟨eq, v2, rfl, y1, y2⟩
      obtain rfl := eq.symm
      refine ⟨v2, rfl, fun q => bad (fun z => ?_), fun q => ⟨fun c3 => ?_, fun c3 => bad (fun z => ?_)⟩⟩
      · have z2 := z.2.1
        have z3 := z.2.2
        exact y1 q ⟨InN.nI (by omega) (by omega), InN.nI z3 (by omega), nI_r (by omega) (by omega) (by omega)⟩
      · have hT := (y2 q).2.1.2
        rw [nI_toInt (by omega)] at hT
        have k3 := (nI_leI (a := cdG x2 k / 10 % 10) (b := cdG x2 k % 10) (by omega) (by omega)).mp c3
        have k4 : cdG x2 k / 10 % 10 ≠ cdG x2 k % 10 := fun z => (y2 q).2.2 (by rw [z])
        have hj : jOK (nE v) (cdG x2 k) := ⟨k2, by omega, by omega⟩
        refine (goGameM (d := d) (lk := false) w1 hm em (a := cdG x2 k / 10 % 10) (e := cdG x2 k % 10) (by omega) (by omega) k4 (th_of k2) (by decide)).to ?_
        rintro _ m3 ⟨w3, f3, rfl, hm3⟩
        refine ⟨_, rfl, ?_⟩
        have e3 : jdF v (cdG x2) (j + 1) k gM = jdF v (cdG x2) j (k + 1) (jdS v (cdG x2 k) gM) := if_pos hj
        rw [e3, jdF_E j (k + 1) _ _ goG_jd, nI_1]
        exact ih (k + 1) _ m3 (by omega) w3 (f1.tr f3 (RS_sub rfl)) hm3 (em.fx f3 rfl) (hL.fx (ρ := 30) f3 (fun _ => rfl) rfl)
      · have z2 := z.2.1
        exact c3 ((nI_leI (a := cdG x2 k / 10 % 10) (b := cdG x2 k % 10) (by omega) (by omega)).mpr (by omega))
theorem e_judgeM {x1 x2 : Int32} (w : WT m) (hm : HM (nE v) m g) (em : EM m v) (n8 : nE v ≤ 8) : Ct ad μX12_judge (d + 171) [.ref (ad 187), .int x1, .int x2] m (jmQ v m g (jdA v x1 x2 g)) := by
  have w0 : WT (uI m 187 17 0) := w.n rfl
  have f0 : Fx (RS [20]) m (uI m 187 17 0) := Fx.rf.i rfl
  have em0 : EM (uI m 187 17 0) v := em.fx f0 rfl
  have hm0 : HM (nE v) (uI m 187 17 0) g := hm
  have z3 : (3 : Int32).toInt = 3 := rfl
  have z0 : (0 : Int32).toInt = 0 := rfl
  refine v_X12_judge (d := d + 170) ((inM (x := x1) (lo := 0) (hi := 3) rfl rfl).to ?_)
  rintro _ m1 ⟨eq, v1, rfl, y1, y2⟩
  obtain rfl := eq.symm
  refine ⟨v1, rfl, fun q => ?_, fun q => ⟨w0, Fx.tr Fx.rf f0 (RS_sub rfl), hm0, ?_⟩⟩
  · have y3 := y2 q
    obtain ⟨N, hN, rfl⟩ := zn_of (x := x1) (by omega)
    have ej : jdA v (nI N) x2 g = jdF v (cdG x2) N 0 g := by
      unfold jdA
      rw [if_pos (by omega), nI_clamp hN]
    rw [nI_toInt hN] at y3
    rw [ej]
    refine (layH (x := 0) (na := 57) (reg := 30) rfl (by decide) (by decide) (fun _ => rfl) (fun _ => rfl) w0 hm0 n8 (by decide)).to ?_
    rintro _ m3 ⟨rfl, w3, f3, hL3, -, -⟩
    refine ⟨rfl, (s_X12_sumOfAll (d := d + 169) w3).to ?_⟩
    rintro _ m4 ⟨w4, f4, v4, rfl⟩
    exact ⟨v4, rfl, jm_40 (d := d) (m0 := m) (by omega) n8 N 0 g m4 (by omega) w4 (((Fx.tr Fx.rf f0 (RS_sub rfl)).tr f3 (RS_sub rfl)).tr f4 (RS_sub rfl)) ((hm0.fx f3 rfl rfl).fx f4 rfl rfl) ((em0.fx f3 rfl).fx f4 rfl) (hL3.fx (ρ := 30) f4 (fun _ => rfl) rfl)⟩
  · unfold jdA
    rw [if_neg (fun z => y1 q (by omega))]
theorem og_judge (c : Nat) (a b : Int32) : Both ad d μX11_judge μX12_judge [.int a, .int b] (InvK (KX KG c)) (InvK (KX KG (c + 1))) := fun m I => by
  obtain ⟨w, I1, ⟨g, v, H, kd⟩, kb⟩ := I
  have n8 := kd.2.2.1.2.2.1
  refine (e_judgeC (d := d + 294) w kd.1 kd.2.2.1).to ?_
  rintro _ m1 ⟨w1, f1, rfl⟩
  have kd1 := kd.fx f1 rfl
  refine ⟨_, rfl, (e_judgeM (d := d + 129) (x1 := a) (x2 := b) w1 kd1.2.1 kd1.2.2.2.1 n8).to ?_⟩
  rintro _ m2 ⟨w2, f2, hm2, rfl⟩
  exact ⟨rfl, w2, I1.f2 f1 f2 rfl rfl, ⟨g, v, H, kd1.hms f2 rfl hm2⟩, KB.fd c f1 f2 kb rfl rfl⟩
end JDM
/-! CALLS: game -/
section GME
variable {ad : Nat → Nat} {d : Nat} {m m0 : Wm} {g : GS} {v : EV} {H : List GS}
def gmQ (m : Wm) (a : Int32) (r : Option Value) (m' : Wm) : Prop := WT m' ∧ Fx (RS [20, 22, 26, 28]) m m' ∧ r = some (.int a)
theorem gm_150 {x4 x5 x6 : Int32} (w : WT m) (f : Fx (RS [20, 22, 26, 28]) m0 m) (h16 : (m.1 187 16).toInt = 0) : AW ad E0 μX12_game (d + 300) (gmQ m0 x4) 150 [(0, .ref (ad 187)), (4, .int x4), (5, .int x5), (6, .int x6)] [] m := by
  refine g_X12_game_150 (d := d + 299) ((s_X12_tell w (by omega)).to ?_)
  rintro _ m1 ⟨w1, f1, rfl, p1⟩
  have p1' : (m1.1 187 16).toInt = (m.1 187 16).toInt + 1 := p1
  refine ⟨rfl, (s_X12_tell w1 (by omega)).to ?_⟩
  rintro _ m2 ⟨w2, f2, rfl, -⟩
  exact ⟨rfl, w2, (f.tr f1 (RS_sub rfl)).tr f2 (RS_sub rfl), rfl⟩
theorem gm_116 {x4 : Int32} {s t : Nat} (w : WT m) (f : Fx (RS [20, 22, 26, 28]) m0 m) (h16 : (m.1 187 16).toInt = 0) (hm : HM (nE v) m g) (em : EM m v) (hs : s < nE v) (ht : t < nE v) : AW ad E0 μX12_game (d + 300) (gmQ m0 x4) 116 [(0, .ref (ad 187)), (4, .int x4), (8, .int (nI s))] [.int (nI t)] m := by
  have a4 := em.2.2.2.1
  refine g_X12_game_116 (d := d + 299) ((artM (d := d + 299) hm em hs ht).to ?_)
  rintro _ m1 ⟨eq, rfl⟩
  obtain rfl := eq.symm
  refine ⟨_, rfl, fun c => ?_, fun _ => gm_150 w f h16⟩
  rcases artG_of (s := g.1) (f := s) (t := t) (n := aE v) with q | ⟨a, ha, q⟩
  · exact absurd q c
  · rw [q]
    refine (gainM (d := d + 298) hm em hs ht (a := a) (by omega)).to ?_
    rintro _ m1 ⟨eq, rfl⟩
    obtain rfl := eq.symm
    exact ⟨_, rfl, gm_150 w f h16⟩
theorem gm_92 {x4 s0 : Int32} {s t : Nat} (w : WT m) (f : Fx (RS [20, 22, 26, 28]) m0 m) (h16 : (m.1 187 16).toInt = 0) (hm : HM (nE v) m g) (em : EM m v) (hs : s < nE v) (ht : t < nE v) : AW ad E0 μX12_game (d + 300) (gmQ m0 x4) 92 [(0, .ref (ad 187)), (1, .int (nI s)), (2, .int (nI t)), (4, .int x4)] [.int s0] m :=
  g_X12_game_92 (d := d + 299) ⟨fun q => ⟨fun _ => gm_116 w f h16 hm em ht hs, fun z => absurd q z⟩, fun q => ⟨fun z => absurd z q, fun _ => gm_116 w f h16 hm em hs ht⟩⟩
theorem gm_69 {x4 s0 : Int32} {s t : Nat} (w : WT m) (f : Fx (RS [20, 22, 26, 28]) m0 m) (h16 : (m.1 187 16).toInt = 0) (hm : HM (nE v) m g) (em : EM m v) (hs : s < nE v) (ht : t < nE v) : AW ad E0 μX12_game (d + 300) (gmQ m0 x4) 69 [(0, .ref (ad 187)), (1, .int (nI s)), (2, .int (nI t)), (4, .int x4)] [.int s0] m :=
  g_X12_game_69 (d := d + 299) ⟨fun _ => ⟨fun _ => gm_92 w f h16 hm em hs ht, fun _ => gm_92 w f h16 hm em hs ht⟩, fun _ => ⟨fun _ => gm_92 w f h16 hm em hs ht, fun _ => gm_92 w f h16 hm em hs ht⟩⟩
theorem e_gameM {s t : Nat} {th : Int32} (w : WT m) (hm : HM (nE v) m g) (em : EM m v) (hs : s < nE v) (ht : t < nE v) (hst : s ≠ t) (hth : 0 ≤ th.toInt ∧ th.toInt ≤ 3) : Ct ad μX12_game (d + 300) [.ref (ad 187), .int (nI s), .int (nI t), .int th] m (gmQ m (wnG v g s t th)) := by
  have n8 := em.2.2.1
  have w0 : WT (uI m 187 17 0) := w.n rfl
  have f0 : Fx (RS [20]) m (uI m 187 17 0) := Fx.rf.i rfl
  have em0 : EM (uI m 187 17 0) v := em.fx f0 rfl
  have hm0 : HM (nE v) (uI m 187 17 0) g := hm
  have P : Two (nE v) (nI s) (nI t) := ⟨InN.nI hs (by omega), InN.nI ht (by omega), nI_r (by omega) (by omega) hst⟩
  refine v_X12_game (d := d + 299) ((twoM (d := d + 297) em0.1 n8).to ?_)
  rintro _ m1 ⟨eq, v1, rfl, y1, y2⟩
  obtain rfl := eq.symm
  refine ⟨v1, rfl, fun z => absurd P (y1 z), fun _ => (thrM (d := d + 298)).to ?_⟩
  rintro _ m1 ⟨eq, v2, rfl, y3, y4⟩
  obtain rfl := eq.symm
  refine ⟨v2, rfl, fun _ => (winnerM (d := d + 130) w0 hm0 em0 hs ht).to ?_, fun z => absurd hth (y3 z)⟩
  rintro _ m2 ⟨w2, f2, rfl⟩
  have w3 : WT (uI m2 187 16 (0 : Int32)) := w2.t rfl (by decide) (by decide)
  have f3 : Fx (RS [26]) m2 (uI m2 187 16 (0 : Int32)) := Fx.rf.i rfl
  have F : Fx (RS [20, 22, 26, 28]) m (uI m2 187 16 (0 : Int32)) := ((Fx.tr Fx.rf f0 (RS_sub rfl)).tr f2 (RS_sub rfl)).tr f3 (RS_sub rfl)
  have h16 : ((uI m2 187 16 (0 : Int32)).1 187 16).toInt = 0 := by
    rw [u_eq]
    rfl
  have hm3 : HM (nE v) (uI m2 187 16 (0 : Int32)) g := (hm0.fx f2 rfl rfl).fx f3 rfl rfl
  have em3 : EM (uI m2 187 16 (0 : Int32)) v := (em0.fx f2 rfl).fx f3 rfl
  exact ⟨_, rfl, fun _ => gm_150 w3 F h16, fun _ => ⟨fun _ => gm_150 w3 F h16, fun _ => ⟨fun _ => gm_69 w3 F h16 hm3 em3 hs ht, fun _ => gm_69 w3 F h16 hm3 em3 hs ht⟩⟩⟩
theorem og_game (c : Nat) (a b th : Int32) : Both ad d μX11_game μX12_game [.int a, .int b, .int th] (InvK (KX KG c)) (InvK (KX KG (c + 1))) := fun m I => by
  have J := J17 I
  obtain ⟨w, I1, ⟨g, v, H, kd⟩, kb⟩ := I
  have kd0 := kd
  obtain ⟨hc, hm, ec, em, -⟩ := kd0
  have n8 := ec.2.2.1
  have z3 : (3 : Int32).toInt = 3 := rfl
  by_cases P : Two (nE v) a b ∧ (0 ≤ th.toInt ∧ th.toInt ≤ 3)
  · obtain ⟨P1, P2⟩ := P
    have P0 := P1
    obtain ⟨s, hs, rfl⟩ := P1.1.of
    obtain ⟨t, ht, rfl⟩ := P1.2.1.of
    have hst : s ≠ t := fun q => P1.2.2 (by rw [q])
    have hth := thr_of P2
    have hG : GR 5 := Or.inr (Or.inr (Or.inl rfl))
    refine v_X11_game (d := d + 299) ((meetC (d := d + 298) ec.1 n8).to ?_)
    rintro _ m1 ⟨eq, v1, rfl, y1, y2⟩
    obtain rfl := eq.symm
    refine ⟨v1, rfl, fun z => absurd P0 (y1 z), fun _ => ⟨fun q => absurd (y_ltr (n := 0) rfl q) (by omega), fun _ => ⟨fun _ => (copyC (d := d + 298) w SS_26 SS_21 (Or.inl (by decide)) hc).to ?_, fun q => absurd (z_nle q) (by omega)⟩⟩⟩
    rintro _ m1 ⟨rfl, w1, f1, h1⟩
    refine ⟨rfl, (resultC (d := d + 295) SS_26 hG w1 h1 (ec.fx f1 rfl) (by omega) (by omega) hth).to ?_⟩
    rintro _ m2 ⟨w2, f2, rfl⟩
    refine ⟨_, rfl, (settleC (d := d + 296) (cn := false) SS_26 hG w2 (h1.fx SS_26 f2 rfl) ((ec.fx f1 rfl).fx f2 rfl) (by omega) (by omega) hst (by decide)).to ?_⟩
    rintro _ m3 ⟨rfl, w3, f3, -⟩
    refine ⟨rfl, (s_X11_tell_ w3).to ?_⟩
    rintro _ m4 ⟨w4, f4, rfl⟩
    have F : Fx (RS [2, 5, 9, 14]) m m4 := (((Fx.tr Fx.rf f1 (RS_sub rfl)).tr f2 (RS_sub rfl)).tr f3 (RS_sub rfl)).tr f4 (RS_sub rfl)
    have kd4 := kd.fx F rfl
    refine ⟨rfl, _, rfl, (e_gameM (d := d) w4 kd4.2.1 kd4.2.2.2.1 hs ht hst P2).to ?_⟩
    rintro _ m5 ⟨w5, f5, rfl⟩
    exact ⟨rfl, w5, I1.f2 F f5 rfl rfl, ⟨g, v, H, kd4.fx f5 rfl⟩, KB.fd c F f5 kb rfl rfl⟩
  · have e1 : (uI m 187 17 0).1 187 1 = nI (nE v) := em.1
    have hM : Ct ad μX12_game (d + 300) [.ref (ad 187), .int a, .int b, .int th] m (fun r m2 => r = some (.int (-1)) ∧ InvK (KX KG (c + 1)) m2) := by
      refine v_X12_game (d := d + 299) ((twoM (d := d + 297) e1 n8).to ?_)
      rintro _ m2 ⟨eq, v3, rfl, x1, x2⟩
      obtain rfl := eq.symm
      refine ⟨v3, rfl, fun _ => ⟨rfl, J⟩, fun q => (thrM (d := d + 298)).to ?_⟩
      rintro _ m2 ⟨eq, v4, rfl, x3, x4⟩
      obtain rfl := eq.symm
      exact ⟨v4, rfl, fun q2 => absurd ⟨x2 q, x4 q2⟩ P, fun _ => ⟨rfl, J⟩⟩
    refine v_X11_game (d := d + 299) ((meetC (d := d + 298) ec.1 n8).to ?_)
    rintro _ m1 ⟨eq, v1, rfl, y1, y2⟩
    obtain rfl := eq.symm
    refine ⟨v1, rfl, fun z => ⟨_, rfl, hM⟩, fun q => ⟨fun _ => ⟨_, rfl, hM⟩, fun q2 => ⟨fun q3 => absurd ⟨y2 q, ?_⟩ P, fun _ => ⟨_, rfl, hM⟩⟩⟩⟩
    have := y_nltr (n := 0) rfl q2
    have := z_le q3
    omega
end GME
/-! CALLS: prize, master -/
/-- the first of those with the most -/
def bsF (f : Nat → Int32) : Nat → Nat
  | 0 => 0
  | k + 1 => if f k ≤ f (bsF f k) then bsF f k else k
theorem bsF_lt {f : Nat → Int32} {n : Nat} (hn : 0 < n) : ∀ k, k ≤ n → bsF f k < n := by
  intro k
  induction k with
  | zero => intro _; exact hn
  | succ k ih =>
    intro h
    have e : bsF f (k + 1) = if f k ≤ f (bsF f k) then bsF f k else k := rfl
    rw [e]
    by_cases c : f k ≤ f (bsF f k)
    · rw [if_pos c]
      exact ih (by omega)
    · rw [if_neg c]
      omega
theorem bsF_p {f : Nat → Int32} {k : Nat} (c : f k ≤ f (bsF f k)) : bsF f (k + 1) = bsF f k := if_pos c
theorem bsF_n {f : Nat → Int32} {k : Nat} (c : ¬ f k ≤ f (bsF f k)) : bsF f (k + 1) = k := if_neg c
section PRZ
variable {ad : Nat → Nat} {d n : Nat} {m : Wm} {g : GS} {v : EV} {H : List GS}
theorem inN_of {n : Nat} {x : Int32} (h : InN n x) : 0 ≤ x.toInt ∧ x.toInt < n := h
theorem ninN_of {n : Nat} {x : Int32} (h : ¬ InN n x) : ¬ (0 ≤ x.toInt ∧ x.toInt < n) := h
def przA (n : Nat) (g : GS) : Int32 := if n = 0 then -2 else nI (bsF g.2.2.1 n)
theorem e_prizeC (w : WT m) (hc : HC 21 m g) (hn : m.1 3 3 = nI n) (n8 : n ≤ 8) : Ct ad μX11_prize (d + 1) [.ref (ad 0)] m (fun r m' => WT m' ∧ Fx (RS [9]) m m' ∧ r = some (.int (przA n g))) := by
  refine v_X11_prize ⟨fun c => ?_, fun c => ⟨w, Fx.rf, ?_⟩⟩
  · have hn0 : 0 < n := Nat.pos_of_ne_zero (fun z => c (by rw [hn, z]; rfl))
    have ea : przA n g = nI (bsF g.2.2.1 n) := if_neg (by omega)
    have L : ∀ (j k : Nat) (x2 : Int32), k + j = n → AW ad E0 μX11_prize (d + 1) (fun r m' => WT m' ∧ Fx (RS [9]) m m' ∧ r = some (.int (przA n g))) 19 [(0, .ref (ad 0)), (1, .int (nI (bsF g.2.2.1 k))), (2, .int x2), (3, .int (nI k))] [] m := by
      intro j
      induction j with
      | zero =>
        intro k x2 hk
        obtain rfl : k = n := hk
        have hb := bsF_lt (f := g.2.2.1) hn0 k (Nat.le_refl _)
        refine g_X11_prize_19 ⟨fun _ => ⟨nat_in (by omega) (by decide), (s_X11_tell_ w).to ?_⟩, fun z => absurd (by rw [hn]; exact (nI_leI (a := k) (b := k) (by omega) (by omega)).mpr (Nat.le_refl _)) z⟩
        rintro _ m1 ⟨w1, f1, rfl⟩
        exact ⟨rfl, w1, f1, by rw [ea]⟩
      | succ j ih =>
        intro k x2 hk
        have hb := bsF_lt (f := g.2.2.1) hn0 k (by omega)
        have e1 : m.1 24 k = g.2.2.1 k := hc.2.2.1 k (by omega)
        have e2 : m.1 24 (bsF g.2.2.1 k) = g.2.2.1 (bsF g.2.2.1 k) := hc.2.2.1 _ (by omega)
        refine g_X11_prize_19 ⟨fun z => absurd (by rw [hn] at z; exact (nI_leI (a := n) (b := k) (by omega) (by omega)).mp z) (by omega), fun _ => ?_⟩
        rw [nI_clamp (by omega), nI_clamp (by omega), e1, e2, nI_1]
        refine ⟨nat_in (by omega) (by decide), nat_in (by omega) (by decide), nat_in (by omega) (by decide), fun q => ?_, fun q => ?_⟩
        · have := ih (k + 1) (x2 + g.2.2.1 k) (by omega)
          rw [bsF_p q] at this
          exact this
        · have := ih (k + 1) (x2 + g.2.2.1 k) (by omega)
          rw [bsF_n q] at this
          exact this
    exact L n 0 0 (by omega)
  · have hn0 : n = 0 := (nI_eq (a := n) (b := 0) (by omega) (by omega)).mp (hn.symm.trans c)
    unfold przA
    rw [if_pos hn0]
theorem e_prizeM (w : WT m) (hm : HM n m g) (hn : m.1 187 1 = nI n) (n8 : n ≤ 8) : Ct ad μX12_prize (d + 1) [.ref (ad 187)] m (fun r m' => WT m' ∧ Fx (RS [20, 26]) m m' ∧ r = some (.int (przA n g))) := by
  have w0 : WT (uI m 187 17 0) := w.n rfl
  have f0 : Fx (RS [20, 26]) m (uI m 187 17 0) := Fx.rf.i rfl
  have s0 : (uI m 187 17 0).1 187 1 = nI n := hn
  have hm0 : HM n (uI m 187 17 0) g := hm
  refine v_X12_prize ?_
  generalize uI m 187 17 0 = m1 at w0 f0 s0 hm0 ⊢
  refine ⟨fun c => ?_, fun c => ⟨w0, f0, ?_⟩⟩
  · have hn0 : 0 < n := Nat.pos_of_ne_zero (fun z => c (by rw [s0, z]; rfl))
    have ea : przA n g = nI (bsF g.2.2.1 n) := if_neg (by omega)
    have L : ∀ (j k : Nat) (x2 : Int32), k + j = n → AW ad E0 μX12_prize (d + 1) (fun r m' => WT m' ∧ Fx (RS [20, 26]) m m' ∧ r = some (.int (przA n g))) 21 [(0, .ref (ad 187)), (1, .int (nI (bsF g.2.2.1 k))), (2, .int x2), (3, .int (nI k))] [] m1 := by
      intro j
      induction j with
      | zero =>
        intro k x2 hk
        obtain rfl : k = n := hk
        have hb := bsF_lt (f := g.2.2.1) hn0 k (Nat.le_refl _)
        have w2 : WT (uI m1 187 16 (0 : Int32)) := w0.t rfl (by decide) (by decide)
        have e16 : ((uI m1 187 16 (0 : Int32)).1 187 16).toInt = 0 := by
          rw [u_eq]
          rfl
        refine g_X12_prize_21 ⟨fun _ => ⟨nat_in (by omega) (by decide), (s_X12_tell w2 (by omega)).to ?_⟩, fun z => absurd (by rw [s0]; exact (nI_leI (a := k) (b := k) (by omega) (by omega)).mpr (Nat.le_refl _)) z⟩
        rintro _ m3 ⟨w3, f3, rfl, p3⟩
        have p3' : (m3.1 187 16).toInt = ((uI m1 187 16 (0 : Int32)).1 187 16).toInt + 1 := p3
        refine ⟨rfl, (s_X12_tell w3 (by omega)).to ?_⟩
        rintro _ m4 ⟨w4, f4, rfl, -⟩
        exact ⟨rfl, w4, ((f0.i rfl).tr f3 (RS_sub rfl)).tr f4 (RS_sub rfl), by rw [ea]⟩
      | succ j ih =>
        intro k x2 hk
        have hb := bsF_lt (f := g.2.2.1) hn0 k (by omega)
        have e1 : m1.1 191 k = g.2.2.1 k := hm0.2.2.1 k (by omega)
        have e2 : m1.1 191 (bsF g.2.2.1 k) = g.2.2.1 (bsF g.2.2.1 k) := hm0.2.2.1 _ (by omega)
        refine g_X12_prize_21 ⟨fun z => absurd (by rw [s0] at z; exact (nI_leI (a := n) (b := k) (by omega) (by omega)).mp z) (by omega), fun _ => ?_⟩
        rw [nI_clamp (by omega), nI_clamp (by omega), e1, e2, nI_1]
        refine ⟨nat_in (by omega) (by decide), nat_in (by omega) (by decide), nat_in (by omega) (by decide), fun q => ?_, fun q => ?_⟩
        · have := ih (k + 1) (x2 + g.2.2.1 k) (by omega)
          rw [bsF_p q] at this
          exact this
        · have := ih (k + 1) (x2 + g.2.2.1 k) (by omega)
          rw [bsF_n q] at this
          exact this
    exact L n 0 0 (by omega)
  · have hn0 : n = 0 := (nI_eq (a := n) (b := 0) (by omega) (by omega)).mp (s0.symm.trans c)
    unfold przA
    rw [if_pos hn0]
/-- a call that both sides answer out of what stands, and that leaves it so -/
theorem og_s {μ μ' : MI} {as : List Value} {c : Nat} {A B : List Nat} (hS : ∀ m g v H, WT m → KGd m g v H → ∃ x : Int32, Ct ad μ (d + 300) (.ref (ad 0) :: as) m (fun r m1 => WT m1 ∧ Fx (RS A) m m1 ∧ r = some (.int x)) ∧ ∀ m1, WT m1 → KGd m1 g v H → Ct ad μ' (d + 300) (.ref (ad 187) :: as) m1 (fun r m2 => WT m2 ∧ Fx (RS B) m1 m2 ∧ r = some (.int x)))
    (a1 : (A.all fun x => !(KGL.elem x)) = true) (a2 : (A.all fun x => !(IL.elem x)) = true) (a3 : (A.all fun x => !(KLB.elem x)) = true)
    (b1 : (B.all fun x => !(KGL.elem x)) = true) (b2 : (B.all fun x => !(IL.elem x)) = true) (b3 : (B.all fun x => !(KLB.elem x)) = true) : Both ad d μ μ' as (InvK (KX KG c)) (InvK (KX KG (c + 1))) := fun m I => by
  obtain ⟨w, I1, ⟨g, v, H, kd⟩, kb⟩ := I
  obtain ⟨x, hC, hM⟩ := hS m g v H w kd
  refine hC.to ?_
  rintro _ m1 ⟨w1, f1, rfl⟩
  have kd1 := kd.fx f1 a1
  refine ⟨x, rfl, (hM m1 w1 kd1).to ?_⟩
  rintro _ m2 ⟨w2, f2, rfl⟩
  exact ⟨rfl, w2, I1.f2 f1 f2 a2 b2, ⟨g, v, H, kd1.fx f2 b1⟩, KB.fd c f1 f2 kb a3 b3⟩
theorem og_prize (c : Nat) : Both ad d μX11_prize μX12_prize [] (InvK (KX KG c)) (InvK (KX KG (c + 1))) := og_s (A := [9]) (B := [20, 26]) (fun m g v H w kd => ⟨przA (nE v) g, e_prizeC (d := d + 299) w kd.1 kd.2.2.1.1 kd.2.2.1.2.2.1, fun m1 w1 kd1 => e_prizeM (d := d + 299) w1 kd1.2.1 kd1.2.2.2.1.1 kd1.2.2.1.2.2.1⟩) rfl rfl rfl rfl rfl rfl
/-- the art a, of side s -/
def aG (g : GS) (a s : Nat) : Int32 := g.1 (4 * s + a)
def mstA (n ar : Nat) (x : Int32) (g : GS) : Int32 := if 0 ≤ x.toInt ∧ x.toInt < ar then (if n = 0 then -2 else nI (bsF (aG g x.toNatClampNeg) n)) else -1
theorem e_masterC {ar : Nat} {x1 : Int32} (w : WT m) (hc : HC 21 m g) (hn : m.1 3 3 = nI n) (n8 : n ≤ 8) (ha : m.1 3 4 = nI ar) (a4 : ar ≤ 4) : Ct ad μX11_master (d + 2) [.ref (ad 0), .int x1] m (fun r m' => WT m' ∧ Fx (RS [9]) m m' ∧ r = some (.int (mstA n ar x1 g))) := by
  refine v_X11_master (d := d + 1) ((knowsC (d := d + 1) ha (by omega)).to ?_)
  rintro _ m1 ⟨eq, v1, rfl, y1, y2⟩
  obtain rfl := eq.symm
  refine ⟨v1, rfl, fun q => ?_, fun q => ⟨w, Fx.rf, ?_⟩⟩
  · have hI := y2 q
    obtain ⟨a, ha2, rfl⟩ := hI.of
    refine ⟨fun c => ?_, fun c => ⟨w, Fx.rf, ?_⟩⟩
    · have hn0 : 0 < n := Nat.pos_of_ne_zero (fun z => c (by rw [hn, z]; rfl))
      have ea : mstA n ar (nI a) g = nI (bsF (aG g a) n) := by
        unfold mstA
        rw [if_pos (inN_of hI), if_neg (by omega), nI_clamp (by omega)]
      have hb := bsF_lt (f := aG g a) hn0 n (Nat.le_refl _)
      have L2 : ∀ (x3 x4 : Int32) (j k : Nat) (x5 : Int32), k + j = n → AW ad E0 μX11_master (d + 2) (fun r m' => WT m' ∧ Fx (RS [9]) m m' ∧ r = some (.int (mstA n ar (nI a) g))) 105 [(0, .ref (ad 0)), (1, .int (nI a)), (2, .int (nI (bsF (aG g a) n))), (3, .int x3), (4, .int x4), (5, .int x5), (6, .int (nI k))] [] m := by
        intro x3 x4 j
        induction j with
        | zero =>
          intro k x5 hk
          refine g_X11_master_105 (d := d + 1) ⟨fun _ => (s_X11_tell__ w).to ?_, fun z => absurd (by rw [hn]; exact (nI_leI (a := n) (b := k) (by omega) (by omega)).mpr (by omega)) z⟩
          rintro _ m1 ⟨w1, f1, rfl⟩
          exact ⟨rfl, w1, f1, by rw [ea]⟩
        | succ j ih =>
          intro k x5 hk
          refine g_X11_master_105 (d := d + 1) ⟨fun z => absurd (by rw [hn] at z; exact (nI_leI (a := n) (b := k) (by omega) (by omega)).mp z) (by omega), fun _ => (skillC (d := d + 1) (s := k) SS_21 hc (a := a) (by omega) (by omega)).to ?_⟩
          rintro _ m1 ⟨eq, rfl⟩
          obtain rfl := eq.symm
          rw [nI_1]
          exact ⟨_, rfl, fun _ => ih (k + 1) _ (by omega), fun _ => ih (k + 1) _ (by omega)⟩
      have L : ∀ (j k : Nat) (x3 : Int32), k + j = n → AW ad E0 μX11_master (d + 2) (fun r m' => WT m' ∧ Fx (RS [9]) m m' ∧ r = some (.int (mstA n ar (nI a) g))) 34 [(0, .ref (ad 0)), (1, .int (nI a)), (2, .int (nI (bsF (aG g a) k))), (3, .int x3), (4, .int (nI k))] [] m := by
        intro j
        induction j with
        | zero =>
          intro k x3 hk
          obtain rfl : k = n := hk
          refine g_X11_master_34 (d := d + 1) ⟨fun _ => (skillC (d := d + 1) (s := bsF (aG g a) k) SS_21 hc (a := a) (by omega) (by omega)).to ?_, fun z => absurd (by rw [hn]; exact (nI_leI (a := k) (b := k) (by omega) (by omega)).mpr (Nat.le_refl _)) z⟩
          rintro _ m1 ⟨eq, rfl⟩
          obtain rfl := eq.symm
          exact ⟨_, rfl, L2 x3 _ k 0 0 (by omega)⟩
        | succ j ih =>
          intro k x3 hk
          have hbk := bsF_lt (f := aG g a) hn0 k (by omega)
          refine g_X11_master_34 (d := d + 1) ⟨fun z => absurd (by rw [hn] at z; exact (nI_leI (a := n) (b := k) (by omega) (by omega)).mp z) (by omega), fun _ => (skillC (d := d + 1) (s := k) SS_21 hc (a := a) (by omega) (by omega)).to ?_⟩
          rintro _ m1 ⟨eq, rfl⟩
          obtain rfl := eq.symm
          refine ⟨_, rfl, (skillC (d := d + 1) (s := bsF (aG g a) k) SS_21 hc (a := a) (by omega) (by omega)).to ?_⟩
          rintro _ m1 ⟨eq, rfl⟩
          obtain rfl := eq.symm
          rw [nI_1]
          refine ⟨_, rfl, fun q => ?_, fun q => ?_⟩
          · have := ih (k + 1) (if g.1 (4 * k + a) < x3 then g.1 (4 * k + a) else x3) (by omega)
            rw [bsF_p (f := aG g a) q] at this
            exact this
          · have := ih (k + 1) (if g.1 (4 * k + a) < x3 then g.1 (4 * k + a) else x3) (by omega)
            rw [bsF_n (f := aG g a) q] at this
            exact this
      exact L n 0 7 (by omega)
    · have hn0 : n = 0 := (nI_eq (a := n) (b := 0) (by omega) (by omega)).mp (hn.symm.trans c)
      unfold mstA
      rw [if_pos (inN_of hI), if_pos hn0]
  · unfold mstA
    rw [if_neg (ninN_of (y1 q))]
theorem e_masterM {ar : Nat} {x1 : Int32} (w : WT m) (hm : HM n m g) (hn : m.1 187 1 = nI n) (n8 : n ≤ 8) (ha : m.1 187 0 = nI ar) (a4 : ar ≤ 4) : Ct ad μX12_master (d + 2) [.ref (ad 187), .int x1] m (fun r m' => WT m' ∧ Fx (RS [20, 26]) m m' ∧ r = some (.int (mstA n ar x1 g))) := by
  have w0 : WT (uI m 187 17 0) := w.n rfl
  have f0 : Fx (RS [20, 26]) m (uI m 187 17 0) := Fx.rf.i rfl
  have s0 : (uI m 187 17 0).1 187 1 = nI n := hn
  have r0 : (uI m 187 17 0).1 187 0 = nI ar := ha
  have hm0 : HM n (uI m 187 17 0) g := hm
  refine v_X12_master (d := d + 1) ?_
  generalize uI m 187 17 0 = m1 at w0 f0 s0 r0 hm0 ⊢
  refine (knowM (d := d) r0 (by omega)).to ?_
  rintro _ m2 ⟨eq, v1, rfl, y1, y2⟩
  obtain rfl := eq.symm
  refine ⟨v1, rfl, fun q => ?_, fun q => ⟨w0, f0, ?_⟩⟩
  · have hI := y2 q
    obtain ⟨a, ha2, rfl⟩ := hI.of
    refine ⟨fun c => ?_, fun c => ⟨w0, f0, ?_⟩⟩
    · have hn0 : 0 < n := Nat.pos_of_ne_zero (fun z => c (by rw [s0, z]; rfl))
      have ea : mstA n ar (nI a) g = nI (bsF (aG g a) n) := by
        unfold mstA
        rw [if_pos (inN_of hI), if_neg (by omega), nI_clamp (by omega)]
      have hb := bsF_lt (f := aG g a) hn0 n (Nat.le_refl _)
      have V : ∀ s, s < n → vp_in (nI (4 * s + a)) 32 := fun s hs => nat_in (by omega) (by decide)
      have L2 : ∀ (x3 : Int32) (j k : Nat) (x4 : Int32), k + j = n → AW ad E0 μX12_master (d + 2) (fun r m' => WT m' ∧ Fx (RS [20, 26]) m m' ∧ r = some (.int (mstA n ar (nI a) g))) 97 [(0, .ref (ad 187)), (1, .int (nI a)), (2, .int (nI (bsF (aG g a) n))), (3, .int x3), (4, .int x4), (5, .int (nI k))] [] m1 := by
        intro x3 j
        induction j with
        | zero =>
          intro k x4 hk
          have w2 : WT (uI m1 187 16 (0 : Int32)) := w0.t rfl (by decide) (by decide)
          have e16 : ((uI m1 187 16 (0 : Int32)).1 187 16).toInt = 0 := by
            rw [u_eq]
            rfl
          refine g_X12_master_97 (d := d + 1) ⟨fun _ => ?_, fun z => absurd (by rw [s0]; exact (nI_leI (a := n) (b := k) (by omega) (by omega)).mpr (by omega)) z⟩
          rw [m_ix]
          refine ⟨V _ hb, (s_X12_tell w2 (by omega)).to ?_⟩
          rintro _ m3 ⟨w3, f3, rfl, p3⟩
          have p3' : (m3.1 187 16).toInt = ((uI m1 187 16 (0 : Int32)).1 187 16).toInt + 1 := p3
          refine ⟨rfl, (s_X12_tell w3 (by omega)).to ?_⟩
          rintro _ m4 ⟨w4, f4, rfl, p4⟩
          have p4' : (m4.1 187 16).toInt = (m3.1 187 16).toInt + 1 := p4
          refine ⟨rfl, (s_X12_tell w4 (by omega)).to ?_⟩
          rintro _ m5 ⟨w5, f5, rfl, -⟩
          exact ⟨rfl, w5, (((f0.i rfl).tr f3 (RS_sub rfl)).tr f4 (RS_sub rfl)).tr f5 (RS_sub rfl), by rw [ea]⟩
        | succ j ih =>
          intro k x4 hk
          refine g_X12_master_97 (d := d + 1) ⟨fun z => absurd (by rw [s0] at z; exact (nI_leI (a := n) (b := k) (by omega) (by omega)).mp z) (by omega), fun _ => ?_⟩
          rw [m_ix, m_ix, nI_1]
          exact ⟨V k (by omega), V _ hb, fun _ => ih (k + 1) _ (by omega), fun _ => ih (k + 1) _ (by omega)⟩
      have L : ∀ (j k : Nat) (x3 : Int32), k + j = n → AW ad E0 μX12_master (d + 2) (fun r m' => WT m' ∧ Fx (RS [20, 26]) m m' ∧ r = some (.int (mstA n ar (nI a) g))) 33 [(0, .ref (ad 187)), (1, .int (nI a)), (2, .int (nI (bsF (aG g a) k))), (3, .int x3), (4, .int (nI k))] [] m1 := by
        intro j
        induction j with
        | zero =>
          intro k x3 hk
          obtain rfl : k = n := hk
          exact g_X12_master_33 (d := d + 1) ⟨fun _ => L2 x3 k 0 0 (by omega), fun z => absurd (by rw [s0]; exact (nI_leI (a := k) (b := k) (by omega) (by omega)).mpr (Nat.le_refl _)) z⟩
        | succ j ih =>
          intro k x3 hk
          have hbk := bsF_lt (f := aG g a) hn0 k (by omega)
          have e1 : m1.1 188 (4 * k + a) = aG g a k := hm0.1 _ (by omega)
          have e2 : m1.1 188 (4 * bsF (aG g a) k + a) = aG g a (bsF (aG g a) k) := hm0.1 _ (by omega)
          refine g_X12_master_33 (d := d + 1) ⟨fun z => absurd (by rw [s0] at z; exact (nI_leI (a := n) (b := k) (by omega) (by omega)).mp z) (by omega), fun _ => ?_⟩
          rw [m_ix, m_ix, nI_clamp (by omega), nI_clamp (by omega), e1, e2]
          have T : ∀ b : Nat, bsF (aG g a) (k + 1) = b → AW ad E0 μX12_master (d + 2) (fun r m' => WT m' ∧ Fx (RS [20, 26]) m m' ∧ r = some (.int (mstA n ar (nI a) g))) 69 [(0, .ref (ad 187)), (1, .int (nI a)), (2, .int (nI b)), (3, .int x3), (4, .int (nI k))] [] m1 := fun b hb2 => by
            refine g_X12_master_69 (d := d + 1) ?_
            rw [m_ix, nI_1, ← hb2]
            exact ⟨V k (by omega), ih (k + 1) _ (by omega)⟩
          exact ⟨V k (by omega), V _ hbk, fun q => T _ (bsF_p q), fun q => T _ (bsF_n q)⟩
      exact L n 0 7 (by omega)
    · have hn0 : n = 0 := (nI_eq (a := n) (b := 0) (by omega) (by omega)).mp (s0.symm.trans c)
      unfold mstA
      rw [if_pos (inN_of hI), if_pos hn0]
  · unfold mstA
    rw [if_neg (ninN_of (y1 q))]
theorem og_master (c : Nat) (x1 : Int32) : Both ad d μX11_master μX12_master [.int x1] (InvK (KX KG c)) (InvK (KX KG (c + 1))) := og_s (A := [9]) (B := [20, 26]) (fun m g v H w kd => ⟨mstA (nE v) (aE v) x1 g, e_masterC (d := d + 298) w kd.1 kd.2.2.1.1 kd.2.2.1.2.2.1 kd.2.2.1.2.1 kd.2.2.1.2.2.2.1, fun m1 w1 kd1 => e_masterM (d := d + 298) w1 kd1.2.1 kd1.2.2.2.1.1 kd1.2.2.1.2.2.1 kd1.2.2.2.1.2.1 kd1.2.2.1.2.2.2.1⟩) rfl rfl rfl rfl rfl rfl
end PRZ
end
