/-! CALLS: ill, swap, law -/
def setI (v : EV) (s : Nat) (b : Bool) : EV := (v.1, v.2.1, v.2.2.1, updB v.2.2.2.1 s b, v.2.2.2.2)
def setL (v : EV) (k : Nat) (x : Int32) : EV := (v.1, v.2.1, upd v.2.2.1 k x, v.2.2.2)
def swG (s t : Nat) : Nat → (Nat → Int32) → (Nat → Int32)
  | 0, f => f
  | k + 1, f => upd (upd (swG s t k f) (4 * s + k) (swG s t k f (4 * t + k))) (4 * t + k) (swG s t k f (4 * s + k))
theorem swG_s {s t k : Nat} {f : Nat → Int32} : swG s t (k + 1) f = upd (upd (swG s t k f) (4 * s + k) (swG s t k f (4 * t + k))) (4 * t + k) (swG s t k f (4 * s + k)) := rfl
theorem ZB.sw {n s t : Nat} {g : GS} (h : ZB n g) (hs : s < n) (ht : t < n) : ∀ k, k ≤ 4 → ZB n (swG s t k g.1, g.2) := by
  intro k
  induction k with
  | zero => intro _; exact h
  | succ k ih =>
    intro hk j h1 h2
    have := ih (by omega) j h1 h2
    show swG s t (k + 1) g.1 j = 0
    rw [swG_s, upd_at, if_neg (by omega), upd_at, if_neg (by omega)]
    exact this
section ISL
variable {ad : Nat → Nat} {d : Nat} {m : Wm} {g : GS} {v : EV} {H : List GS}
/-- nothing that counts has changed -/
theorem J17 {c : Nat} (I : InvK (KX KG c) m) : InvK (KX KG (c + 1)) (uI m 187 17 0) := by
  obtain ⟨w, I1, kg, kb⟩ := I
  have f0 : Fx (RS [20]) m (uI m 187 17 0) := Fx.rf.i rfl
  exact ⟨w.n rfl, I1.f2 (Fx.rf (S := RS [])) f0 rfl rfl, kg.fx f0 rfl, KB.fd c (Fx.rf (S := RS [])) f0 kb rfl rfl⟩
theorem UnC.none (h : UnC m H) : UnC (uI m 31 1 (0 : Int32)) [] := by
  obtain ⟨h1, h2, p, hp, h3, h4⟩ := h
  exact ⟨Nat.zero_le _, u_eq, p, hp, (u_ne (by omega)).trans h3, fun j hj => absurd hj (Nat.not_lt_zero j)⟩
theorem UnM.none {n : Nat} : UnM n (uI m 187 30 (0 : Int32)) [] := ⟨u_eq, fun j hj => absurd hj (Nat.not_lt_zero j)⟩
theorem ill_or {il : Nat → Bool} {s : Nat} (h : illC m il) (hs : s < 8) : ∀ j, j < 8 → bt (m.1 3 5 ||| ((1 : Int32) <<< (nI s &&& 31))) j = updB il s true j := fun j hj => by
  rw [b_or, bt_1shl (by omega) (by omega), h j hj]
  unfold updB
  by_cases q : j = s
  · rw [if_pos q, decide_eq_true q, Bool.or_true]
  · rw [if_neg q, decide_eq_false q, Bool.or_false]
theorem ill_and {il : Nat → Bool} {s : Nat} (h : illC m il) (hs : s < 8) : ∀ j, j < 8 → bt (m.1 3 5 &&& (((1 : Int32) <<< (nI s &&& 31)) ^^^ (-1 : Int32))) j = updB il s false j := fun j hj => by
  rw [b_and, b_xor, bt_1shl (by omega) (by omega), b_m1 j (by omega), h j hj]
  unfold updB
  by_cases q : j = s
  · rw [if_pos q, decide_eq_true q]; exact Bool.and_false _
  · rw [if_neg q, decide_eq_false q]; exact Bool.and_true _
theorem EC.il {s : Nat} {b : Bool} {x : Int32} (h : EC m v) (hs : s < nE v) (hb : ∀ j, j < 8 → bt x j = updB (iE v) s b j) : EC (uI m 3 5 x) (setI v s b) := by
  obtain ⟨h1, h2, h3, h4, h5, h6, h7⟩ := h
  have f : Fx (RS [42]) m (uI m 3 5 x) := Fx.rf.i rfl
  refine ⟨h1, h2, h3, h4, h5, ⟨fun j hj => ?_, fun j hj => ?_⟩, h7.fx f rfl⟩
  · show bt ((uI m 3 5 x).1 3 5) j = _
    rw [u_eq]
    exact hb j hj
  · have hj' : nE v ≤ j := hj
    show updB (iE v) s b j = false
    unfold updB
    rw [if_neg (by omega)]
    exact h6.2 j hj'
theorem EM.il {s : Nat} {b : Bool} (h : EM m v) (hs : s < nE v) : EM (uI m 189 s (if b = true then 1 else 0)) (setI v s b) := by
  obtain ⟨h1, h2, h3, h4, h5, h6, h7⟩ := h
  refine ⟨h1, h2, h3, h4, h5, fun j hj => ?_, h7⟩
  show (uI m 189 s (if b = true then 1 else 0)).1 189 j = if updB (iE v) s b j = true then 1 else 0
  unfold updB
  by_cases q : j = s
  · rw [show (if j = s then b else iE v j) = b from if_pos q, q, u_eq]
  · rw [show (if j = s then b else iE v j) = iE v j from if_neg q, u_ne (fun z => q z.2)]
    exact h6 j hj
theorem EC.lws {k : Nat} {x : Int32} (h : EC m v) : EC (uI m 4 k x) (setL v k x) := by
  obtain ⟨h1, h2, h3, h4, h5, h6, h7⟩ := h
  have f : Fx (RS [43]) m (uI m 4 k x) := Fx.rf.i rfl
  refine ⟨h1, h2, h3, h4, fun j hj => ?_, h6, h7.fx f rfl⟩
  rw [uI_row]
  exact upd_eq (h5 j hj)
set_option maxHeartbeats 1000000 in
theorem og_ill (c : Nat) (a b : Int32) (hb : b = 0 ∨ b = 1) : Both ad d μX11_ill μX12_ill [.int a, .int b] (InvK (KX KG c)) (InvK (KX KG (c + 1))) := fun m I => by
  have J := J17 I
  obtain ⟨w, I1, ⟨g, v, H, kd⟩, kb⟩ := I
  obtain ⟨hc, hm, ec, em, uc, um, zb, zh, kp, nx⟩ := kd
  have n8 := ec.2.2.1
  have hil := ec.2.2.2.2.2.1.1
  have e1 : (uI m 187 17 0).1 187 1 = nI (nE v) := em.1
  by_cases P : InN (nE v) a
  · have P0 := P
    obtain ⟨s, hs, rfl⟩ := P.of
    have vin : vp_in (nI s) 8 := nat_in (by omega) (by decide)
    have go : ∀ (x : Int32) (bb : Bool), (∀ j, j < 8 → bt x j = updB (iE v) s bb j) → vp_nar .boolean b = (if bb = true then 1 else 0) → Ct ad μX12_ill (d + 300) [.ref (ad 187), .int (nI s), .int b] (uI m 3 5 x) (fun r m2 => r = some (.int 1) ∧ InvK (KX KG (c + 1)) m2) := fun x bb hx hn => by
      have w1 : WT (uI m 3 5 x) := w.n rfl
      have f1 : Fx (RS [42]) m (uI m 3 5 x) := Fx.rf.i rfl
      have f0 : Fx (RS [20]) (uI m 3 5 x) (uI (uI m 3 5 x) 187 17 0) := Fx.rf.i rfl
      have e2 : (uI (uI m 3 5 x) 187 17 0).1 187 1 = nI (nE v) := em.1
      refine v_X12_ill (d := d + 299) ((sideM (d := d + 298) e2 n8).to ?_)
      rintro _ m1 ⟨eq, v3, rfl, z1, z2⟩
      obtain rfl := eq.symm
      refine ⟨v3, rfl, fun _ => ⟨vin, ?_⟩, fun z => absurd P0 (z1 z)⟩
      rw [nI_clamp (by omega), hn]
      have f2 : Fx (RS [20, 46]) (uI m 3 5 x) (uI (uI (uI m 3 5 x) 187 17 0) 189 s (if bb = true then 1 else 0)) := Fx.i (Fx.i Fx.rf rfl) rfl
      have ec1 : EC (uI m 3 5 x) (setI v s bb) := ec.il hs hx
      have em1 : EM (uI (uI m 3 5 x) 187 17 0) v := (em.fx f1 rfl).fx f0 rfl
      exact ⟨rfl, (w1.n rfl).n rfl, I1.f2 f1 f2 rfl rfl, ⟨g, setI v s bb, H, (hc.fx SS_21 f1 rfl).fx SS_21 f2 rfl, (hm.fx f1 rfl rfl).fx f2 rfl rfl, ec1.fx f2 rfl, em1.il hs, (uc.fx f1 rfl rfl).fx f2 rfl rfl, (um.fx f1 rfl).fx f2 rfl, zb, zh, (kp.fx f1 rfl rfl).fx f2 rfl rfl, (nx.fx f1 rfl rfl rfl).fx f2 rfl rfl rfl⟩, KB.fd c f1 f2 kb rfl rfl⟩
    refine v_X11_ill (d := d + 299) ((hasC ec.1 n8).to ?_)
    rintro _ m1 ⟨eq, v1, rfl, y1, y2⟩
    obtain rfl := eq.symm
    refine ⟨v1, rfl, fun _ => ⟨fun q => ⟨_, rfl, go _ false (ill_and hil (by omega)) ?_⟩, fun q => ⟨_, rfl, go _ true (ill_or hil (by omega)) ?_⟩⟩, fun z => absurd P0 (y1 z)⟩
    · rw [q]; rfl
    · rcases hb with z | z
      · exact absurd z q
      · rw [z]; rfl
  · have hM : Ct ad μX12_ill (d + 300) [.ref (ad 187), .int a, .int b] m (fun r m2 => r = some (.int 0) ∧ InvK (KX KG (c + 1)) m2) := by
      refine v_X12_ill (d := d + 299) ((sideM (d := d + 298) e1 n8).to ?_)
      rintro _ m1 ⟨eq, v3, rfl, z1, z2⟩
      obtain rfl := eq.symm
      exact ⟨v3, rfl, fun q => absurd (z2 q) P, fun _ => ⟨rfl, J⟩⟩
    refine v_X11_ill (d := d + 299) ((hasC ec.1 n8).to ?_)
    rintro _ m1 ⟨eq, v1, rfl, y1, y2⟩
    obtain rfl := eq.symm
    exact ⟨v1, rfl, fun q => absurd (y2 q) P, fun _ => ⟨_, rfl, hM⟩⟩
set_option maxHeartbeats 1000000 in
theorem og_swap (c : Nat) (a b : Int32) : Both ad d μX11_swap μX12_swap [.int a, .int b] (InvK (KX KG c)) (InvK (KX KG (c + 1))) := fun m I => by
  have J := J17 I
  obtain ⟨w, I1, ⟨g, v, H, kd⟩, kb⟩ := I
  obtain ⟨hc, hm, ec, em, uc, um, zb, zh, kp, nx⟩ := kd
  have n8 := ec.2.2.1
  have e1 : (uI m 187 17 0).1 187 1 = nI (nE v) := em.1
  by_cases P : Two (nE v) a b
  · have P0 := P
    obtain ⟨s, hs, rfl⟩ := P.1.of
    obtain ⟨t, ht, rfl⟩ := P.2.1.of
    have mod : ∀ m1, WT m1 → Fx (RS [4, 53]) m m1 → HC 21 m1 (swG s t 4 g.1, g.2) → UnC m1 [] → Ct ad μX12_swap (d + 300) [.ref (ad 187), .int (nI s), .int (nI t)] m1 (fun r m2 => r = some (.int 1) ∧ InvK (KX KG (c + 1)) m2) := fun m1 w1 f1 hc1 uc1 => by
      have w2 : WT (uI m1 187 17 0) := w1.n rfl
      have f2 : Fx (RS [20, 24, 29]) m1 (uI m1 187 17 0) := Fx.rf.i rfl
      have em1 := em.fx f1 rfl
      have e2 : (uI m1 187 17 0).1 187 1 = nI (nE v) := em1.1
      have hm2 : HM (nE v) (uI m1 187 17 0) g := by
        have h := hm.fx f1 rfl rfl
        exact h
      refine v_X12_swap (d := d + 299) ((twoM (d := d + 297) e2 n8).to ?_)
      rintro _ m2 ⟨eq, v3, rfl, x1, x2⟩
      obtain rfl := eq.symm
      refine ⟨v3, rfl, fun _ => ?_, fun z => absurd P0 (x1 z)⟩
      have L : ∀ (j k : Nat) (m3 : Wm), k + j = 4 → WT m3 → Fx (RS [20, 24, 29]) m1 m3 → HM (nE v) m3 (swG s t k g.1, g.2) → AW ad E0 μX12_swap (d + 299 + 1) (fun r m2 => r = some (.int 1) ∧ InvK (KX KG (c + 1)) m2) 18 [(0, .ref (ad 187)), (1, .int (nI s)), (2, .int (nI t)), (3, .int (nI k))] [] m3 := by
        intro j
        induction j with
        | zero =>
          intro k m3 hk w3 f3 h3
          obtain rfl : k = 4 := hk
          refine g_X12_swap_18 ⟨fun _ => ⟨rfl, ?_⟩, fun z => absurd ((le_l 4 4 rfl (by decide) (by omega)).mpr (Nat.le_refl _)) z⟩
          have f4 : Fx (RS [20, 24, 29]) m1 (uI m3 187 30 (0 : Int32)) := f3.i rfl
          exact ⟨w3.t rfl (by decide) (by decide), I1.f2 f1 f4 rfl rfl, ⟨(swG s t 4 g.1, g.2), v, [], hc1.fx SS_21 f4 rfl, h3, (ec.fx f1 rfl).fx f4 rfl, em1.fx f4 rfl, uc1.fx f4 rfl rfl, UnM.none, zb.sw hs ht 4 (Nat.le_refl _), fun j hj => absurd hj (Nat.not_lt_zero j), (kp.fx f1 rfl rfl).fx f4 rfl rfl, (nx.fx f1 rfl rfl rfl).fx f4 rfl rfl rfl⟩, KB.fd c f1 f4 kb rfl rfl⟩
        | succ j ih =>
          intro k m3 hk w3 f3 h3
          refine g_X12_swap_18 ⟨fun z => absurd ((le_l 4 4 rfl (by decide) (by omega)).mp z) (by omega), fun _ => ?_⟩
          rw [m_ix, m_ix, nI_1, nI_clamp (by omega), nI_clamp (by omega)]
          have i1 : m3.1 188 (4 * s + k) = swG s t k g.1 (4 * s + k) := h3.1 _ (by omega)
          have i2 : m3.1 188 (4 * t + k) = swG s t k g.1 (4 * t + k) := h3.1 _ (by omega)
          rw [i1, i2]
          have V1 : vp_in (nI (4 * s + k)) 32 := nat_in (by omega) (by decide)
          have V2 : vp_in (nI (4 * t + k)) 32 := nat_in (by omega) (by decide)
          exact ⟨V1, V2, V1, V2, ih (k + 1) _ (by omega) ((w3.n rfl).n rfl) ((f3.i rfl).i rfl) (h3.sk).sk⟩
      exact L 4 0 _ rfl w2 f2 hm2
    refine v_X11_swap (d := d + 299) ((meetC (d := d + 298) ec.1 n8).to ?_)
    rintro _ m1 ⟨eq, v1, rfl, y1, y2⟩
    obtain rfl := eq.symm
    refine ⟨v1, rfl, fun _ => ?_, fun z => absurd P0 (y1 z)⟩
    have L : ∀ (j k : Nat) (m3 : Wm), k + j = 4 → WT m3 → Fx (RS [4]) m m3 → HC 21 m3 (swG s t k g.1, g.2) → AW ad E0 μX11_swap (d + 299 + 1) (fun r m1 => ∃ v : Int32, r = some (.int v) ∧ Ct ad μX12_swap (d + 300) [.ref (ad 187), .int (nI s), .int (nI t)] m1 (fun r m2 => r = some (.int v) ∧ InvK (KX KG (c + 1)) m2)) 16 [(0, .ref (ad 0)), (1, .int (nI s)), (2, .int (nI t)), (3, .int (nI k))] [] m3 := by
      intro j
      induction j with
      | zero =>
        intro k m3 hk w3 f3 h3
        obtain rfl : k = 4 := hk
        have f4 : Fx (RS [4, 53]) m (uI m3 31 1 (0 : Int32)) := (Fx.tr Fx.rf f3 (RS_sub rfl)).i rfl
        exact g_X11_swap_16 ⟨fun _ => ⟨1, rfl, mod _ (w3.t rfl (by decide) (by decide)) f4 (h3.o (by omega)) (uc.fx f3 rfl rfl).none⟩, fun z => absurd ((le_l 4 4 rfl (by decide) (by omega)).mpr (Nat.le_refl _)) z⟩
      | succ j ih =>
        intro k m3 hk w3 f3 h3
        refine g_X11_swap_16 ⟨fun z => absurd ((le_l 4 4 rfl (by decide) (by omega)).mp z) (by omega), fun _ => (skillC (d := d + 299) (s := s) SS_21 h3 (a := k) (by omega) (by omega)).to ?_⟩
        rintro _ m4 ⟨eq, rfl⟩
        obtain rfl := eq.symm
        refine ⟨_, rfl, (skillC (d := d + 299) (s := t) SS_21 h3 (a := k) (by omega) (by omega)).to ?_⟩
        rintro _ m4 ⟨eq, rfl⟩
        obtain rfl := eq.symm
        refine ⟨_, rfl, (putC (d := d + 299) (s := s) SS_21 (a := k) (by omega) (by omega)).to ?_⟩
        rintro _ m4 ⟨rfl, rfl⟩
        refine ⟨rfl, (putC (d := d + 299) (s := t) SS_21 (a := k) (by omega) (by omega)).to ?_⟩
        rintro _ m5 ⟨rfl, rfl⟩
        rw [nI_1]
        exact ⟨rfl, ih (k + 1) _ (by omega) ((w3.n rfl).n rfl) ((f3.i rfl).i rfl) (h3.sk).sk⟩
    exact L 4 0 m rfl w Fx.rf hc
  · have hM : Ct ad μX12_swap (d + 300) [.ref (ad 187), .int a, .int b] m (fun r m2 => r = some (.int 0) ∧ InvK (KX KG (c + 1)) m2) := by
      refine v_X12_swap (d := d + 299) ((twoM (d := d + 297) e1 n8).to ?_)
      rintro _ m2 ⟨eq, v3, rfl, x1, x2⟩
      obtain rfl := eq.symm
      exact ⟨v3, rfl, fun q => absurd (x2 q) P, fun _ => ⟨rfl, J⟩⟩
    refine v_X11_swap (d := d + 299) ((meetC (d := d + 298) ec.1 n8).to ?_)
    rintro _ m1 ⟨eq, v1, rfl, y1, y2⟩
    obtain rfl := eq.symm
    exact ⟨v1, rfl, fun q => absurd (y2 q) P, fun _ => ⟨_, rfl, hM⟩⟩
theorem EM.lws {m2 : Wm} {ls : Nat → Int32} (h : EM m v) (f : Fx (RS [20, 47]) m m2) (hl : ∀ j, j < 5 → m2.1 193 j = ls j) : EM m2 (v.1, v.2.1, ls, v.2.2.2) := by
  obtain ⟨q1, q2, q3, q4, q5, q6, q7, q8, q9⟩ := h
  exact ⟨(f.at (nRS (ρ := 23) rfl rfl)).trans q1, (f.at (nRS (ρ := 23) rfl rfl)).trans q2, q3, q4, hl, fun s hs => (f.at (nRS (ρ := 46) rfl rfl)).trans (q6 s hs), (f.at (nRS (ρ := 48) rfl rfl)).trans q7, q8, fun j hj => (f.at (nRS (ρ := 48) rfl rfl)).trans (q9 j hj)⟩
theorem og_law (c : Nat) (a b : Int32) : Both ad d μX11_law μX12_law [.int a, .int b] (InvK (KX KG c)) (InvK (KX KG (c + 1))) := fun m I => by
  obtain ⟨w, I1, ⟨g, v, H, kd⟩, kb⟩ := I
  obtain ⟨hc, hm, ec, em, uc, um, zb, zh, kp, nx⟩ := kd
  obtain ⟨pl, lw, kq⟩ := kb
  refine (e_lawC (d := d + 299) w).to ?_
  rintro r m1 ⟨w1, ⟨hT, k, hk, hak, rfl, e⟩ | ⟨hT, rfl, e⟩⟩
  · have f1 : Fx (RS [43]) m m1 := by rw [e]; exact Fx.rf.i rfl
    have ec1 : EC m1 (setL v k b) := by rw [e]; exact ec.lws
    refine ⟨_, rfl, (e_lawM (d := d + 298) w1).to ?_⟩
    rintro r m2 ⟨w2, f2, ⟨-, k', hk', hak', rfl, h⟩ | ⟨hT2, -⟩⟩
    · have hkk : k' = k := ((nI_eq (a := k) (b := k') (by omega) (by omega)).mp (hak.symm.trans hak')).symm
      subst hkk
      have e193 : ∀ j, m1.1 193 j = m.1 193 j := fun j => f1.at (nRS (ρ := 47) rfl rfl)
      have em2 : EM m2 (setL v k' b) := (em.fx f1 rfl).lws f2 (fun j hj => by
        rw [h j, e193 j, upd_at]
        by_cases q : j = k'
        · rw [if_pos q, if_pos q]
        · rw [if_neg q, if_neg q]; exact em.2.2.2.2.1 j hj)
      refine ⟨by rw [e193 k', lw k' hk], w2, I1.f2 f1 f2 rfl rfl, ⟨g, setL v k' b, H, (hc.fx SS_21 f1 rfl).fx SS_21 f2 rfl, (hm.fx f1 rfl rfl).fx f2 rfl rfl, ec1.fx f2 rfl, em2, (uc.fx f1 rfl rfl).fx f2 rfl rfl, (um.fx f1 rfl).fx f2 rfl, zb, zh, (kp.fx f1 rfl rfl).fx f2 rfl rfl, (nx.fx f1 rfl rfl rfl).fx f2 rfl rfl rfl⟩, (pl.fx f1 rfl rfl rfl rfl rfl).fx f2 rfl rfl rfl rfl rfl, fun j hj => ?_, ((kq.fx f1 rfl rfl rfl).fx f2 rfl rfl rfl).up⟩
      rw [f2.at (a := 4) (k := j) (nRS (ρ := 43) rfl rfl), h j, e193 j, e]
      by_cases hj2 : j = k'
      · rw [hj2, if_pos rfl]; exact u_eq
      · rw [if_neg hj2]; exact (u_ne (fun q => hj2 q.2)).trans (lw j hj)
    · exact absurd hT hT2
  · subst e
    refine ⟨_, rfl, (e_lawM (d := d + 298) w1).to ?_⟩
    rintro r m2 ⟨w2, f2, ⟨hT2, -⟩ | ⟨-, rfl, h⟩⟩
    · exact absurd hT2 hT
    · have em2 : EM m2 v := em.lws f2 (fun j hj => (h j).trans (em.2.2.2.2.1 j hj))
      refine ⟨rfl, w2, I1.f2 (Fx.rf (S := RS [])) f2 rfl rfl, ⟨g, v, H, hc.fx SS_21 f2 rfl, hm.fx f2 rfl rfl, ec.fx f2 rfl, em2, uc.fx f2 rfl rfl, um.fx f2 rfl, zb, zh, kp.fx f2 rfl rfl, nx.fx f2 rfl rfl rfl⟩, pl.fx f2 rfl rfl rfl rfl rfl, fun j hj => ?_, (kq.fx f2 rfl rfl rfl).up⟩
      rw [f2.at (a := 4) (k := j) (nRS (ρ := 43) rfl rfl), h j]
      exact lw j hj
end ISL
/-! CALLS: sheet, league -/
def shtG (n a : Nat) (V : Nat → Int32) (g : GS) : GS := ((fun k => if k < 4 * n ∧ k % 4 = a then V (k / 4) else g.1 k), g.2)
def cutG (fr sd : Nat) (wp : Bool) (f : Nat → Int32) (s : Nat) : Int32 := if s < fr ∨ (wp = false ∧ sd ≤ s) then f s else 0
theorem all_sub {S L L' : List Nat} (e : (S.all fun x => !(L.elem x)) = true) (hA : ∀ y ∈ L', y ∈ L) : (S.all fun x => !(L'.elem x)) = true := List.all_eq_true.mpr (fun x hx => by
  have h1 := List.all_eq_true.mp e x hx
  cases c : L'.elem x with
  | false => rfl
  | true =>
    have hm := List.mem_of_elem_eq_true c
    rw [List.elem_eq_true_of_mem (hA x hm)] at h1
    exact absurd h1 (by decide))
theorem KG.kd : KD KG KG := by
  intro S1 S2 m m1 m2 f1 f2 k e1 e2
  exact (k.fx f1 (all_sub e1 (by decide))).fx f2 (all_sub e2 (by decide))
/-- what holds while a league is read: of the sides that stay, and behind the last -/
def lgJ (il0 : Nat → Bool) (sk0 : Nat → Int32) : LgSt → Prop
  | (st, _, _, sd, ar, fr, _, il, sk) => fr ≤ sd ∧ ar ≤ 4 ∧ (st = 2 → fr < sd) ∧ (∀ k, k < 4 * fr → sk k = sk0 k) ∧ (∀ t, t < fr → il t = il0 t) ∧ ∀ k, 4 * sd ≤ k → k < 32 → sk k = 0
theorem lst_I {il0 : Nat → Bool} {sk0 : Nat → Int32} {c : Int32} {st dg ln sd ar fr : Nat} {wp : Bool} {il : Nat → Bool} {sk : Nat → Int32} {L' : LgSt} (h : lst c st dg ln sd ar fr wp il sk = some L') (I : lgJ il0 sk0 (st, dg, ln, sd, ar, fr, wp, il, sk)) : lgJ il0 sk0 L' := by
  obtain ⟨i1, i2, i3, i4, i5, i6⟩ := I
  unfold lst at h
  by_cases c1 : c = 59 ∧ lEnd st dg ar
  · rw [if_pos c1] at h
    cases h
    exact ⟨i1, i2, fun z => absurd z (by decide), i4, i5, i6⟩
  rw [if_neg c1] at h
  by_cases s0 : st = 0
  · rw [if_pos s0] at h
    by_cases c2 : c = 119
    · rw [if_pos c2] at h
      cases h
      exact ⟨i1, i2, fun z => absurd z (by decide), i4, i5, i6⟩
    rw [if_neg c2] at h
    by_cases s8 : sd < 8
    · rw [if_pos s8] at h
      unfold lsk at h
      by_cases c3 : 0 ≤ (c - 48).toInt ∧ (c - 48).toInt ≤ 7
      · rw [if_pos c3] at h
        cases h
        refine ⟨by omega, i2, fun _ => by omega, fun k hk => ?_, fun t ht => ?_, fun k h1 h2 => ?_⟩
        · rw [upd_at, if_neg (by omega)]
          unfold clr4
          rw [if_neg (by omega)]
          exact i4 k hk
        · unfold updB
          rw [if_neg (by omega)]
          exact i5 t ht
        · rw [upd_at, if_neg (by omega)]
          unfold clr4
          rw [if_neg (by omega)]
          exact i6 k (by omega) h2
      · rw [if_neg c3] at h
        cases h
    · rw [if_neg s8] at h
      cases h
  rw [if_neg s0] at h
  by_cases s1 : st = 1
  · rw [if_pos s1] at h
    by_cases c3 : 1 ≤ (c - 48).toInt ∧ (c - 48).toInt ≤ 4
    · rw [if_pos c3] at h
      have q := tn (x := c - 48) (by omega)
      cases h
      exact ⟨Nat.le_refl _, by omega, fun z => absurd z (by decide), fun k hk => absurd hk (by omega), fun t ht => absurd ht (Nat.not_lt_zero t), fun _ _ _ => rfl⟩
    · rw [if_neg c3] at h
      cases h
  rw [if_neg s1] at h
  by_cases s2 : st = 2
  · rw [if_pos s2] at h
    have i3' := i3 s2
    by_cases d1 : dg < ar
    · rw [if_pos d1] at h
      unfold lsk at h
      by_cases c3 : 0 ≤ (c - 48).toInt ∧ (c - 48).toInt ≤ 7
      · rw [if_pos c3] at h
        cases h
        refine ⟨i1, i2, fun _ => i3', fun k hk => ?_, i5, fun k h1 h2 => ?_⟩
        · rw [upd_at, if_neg (by omega)]
          exact i4 k hk
        · rw [upd_at, if_neg (by omega)]
          exact i6 k h1 h2
      · rw [if_neg c3] at h
        cases h
    · rw [if_neg d1] at h
      by_cases c3 : c = 33
      · rw [if_pos c3] at h
        cases h
        refine ⟨i1, i2, fun z => absurd z (by decide), i4, fun t ht => ?_, i6⟩
        unfold updB
        rw [if_neg (by omega)]
        exact i5 t ht
      · rw [if_neg c3] at h
        cases h
  · rw [if_neg s2] at h
    cases h
theorem LO_I {il0 : Nat → Bool} {sk0 : Nat → Int32} {tx : Nat → Int32} {big : Bool} {L' : LgSt} : ∀ (k p : Nat) (L : LgSt), lgJ il0 sk0 L → LO tx big k p L = .inr L' → lgJ il0 sk0 L' := by
  intro k
  induction k with
  | zero =>
    intro p L hI h
    obtain ⟨st, dg, ln, sd, ar, fr, wp, il, sk⟩ := L
    by_cases c : big = false ∧ lEnd st dg ar
    · rw [LO_e c] at h
      cases h
      exact hI
    · rw [LO_n c] at h
      cases h
  | succ k ih =>
    intro p L hI h
    obtain ⟨st, dg, ln, sd, ar, fr, wp, il, sk⟩ := L
    cases hl : lst (tx p) st dg ln sd ar fr wp il sk with
    | none =>
      rw [LO_f hl] at h
      cases h
    | some L2 =>
      rw [LO_s hl] at h
      exact ih _ _ (lst_I hl hI) h
section SHL
variable {ad : Nat → Nat} {d : Nat} {m : Wm} {g : GS} {v : EV} {H : List GS}
theorem UnC.wt (w : WT m) (h : m.1 31 1 = 0) : UnC m [] := by
  obtain ⟨p, ep, -, -, p19, -⟩ := w.nat (a := 31) (k := 2) rfl (by decide)
  exact ⟨Nat.zero_le _, h, p, by omega, ep, fun j hj => absurd hj (Nat.not_lt_zero j)⟩
theorem UnM.wt {n : Nat} (h : m.1 187 30 = 0) : UnM n m [] := ⟨h, fun j hj => absurd hj (Nat.not_lt_zero j)⟩
set_option maxHeartbeats 1000000 in
theorem og_sheet (kq : Nat) (x1 x2 x3 x4 x5 : Int32) : Both ad d μX11_sheet μX12_sheet [.int x1, .int x2, .int x3, .int x4, .int x5] (InvK (KX KG kq)) (InvK (KX KG (kq + 1))) := fun m I => by
  obtain ⟨w, I1, ⟨g, v, H, kd⟩, kb⟩ := I
  have kd0 := kd
  obtain ⟨hc, hm, ec, em, uc, um, zb, zh, kp, nx⟩ := kd
  have n8 := ec.2.2.1
  have a4 := ec.2.2.2.1
  refine (e_sheetC (d := d + 299) w ec.1 n8 ec.2.1 a4).to ?_
  rintro r m1 ⟨⟨w1, f1, h⟩, hz, hs, hb⟩
  have k1 : m1.1 187 1 = nI (nE v) := (f1.at (a := 187) (k := 1) (nRS (ρ := 23) rfl rfl)).trans em.1
  have k0 : m1.1 187 0 = nI (aE v) := (f1.at (a := 187) (k := 0) (nRS (ρ := 23) rfl rfl)).trans em.2.1
  have hM := e_sheetM (ad := ad) (d := d + 298) (x1 := x1) (x2 := x2) (x3 := x3) (x4 := x4) (x5 := x5) w1 k1 n8 k0 a4
  by_cases G : shG (aE v) x1 x2 x3 ∧ (x2.toInt = 3 ∨ 0 ≤ x3.toInt)
  · have hC : r = some (.int (if x2 = 3 then -3 else shS (shV x2 x3 x4 x5) (nE v))) ∧ ∀ k, m1.1 22 k = if k < 4 * nE v ∧ k % 4 = x1.toNatClampNeg then shV x2 x3 x4 x5 (k / 4) else m.1 22 k := by
      rcases h with ⟨q, -⟩ | ⟨-, q1, q2, -⟩ | ⟨-, -, q1, q2⟩
      · exact absurd G.1 q
      · exact absurd G.2 (by omega)
      · exact ⟨q1, q2⟩
    refine ⟨_, hC.1, hM.to ?_⟩
    rintro r2 m2 ⟨⟨w2, f2, h2⟩, hz2, -, hb2⟩
    have hD : r2 = some (.int (if x2 = 3 then -3 else shS (shV x2 x3 x4 x5) (nE v))) ∧ ∀ k, m2.1 188 k = if k < 4 * nE v ∧ k % 4 = x1.toNatClampNeg then shV x2 x3 x4 x5 (k / 4) else m1.1 188 k := by
      rcases h2 with ⟨q, -⟩ | ⟨-, q1, q2, -⟩ | ⟨-, -, q1, q2⟩
      · exact absurd G.1 q
      · exact absurd G.2 (by omega)
      · exact ⟨q1, q2⟩
    have hc1 : HC 21 m1 (shtG (nE v) x1.toNatClampNeg (shV x2 x3 x4 x5) g) := by
      refine ⟨fun k hk => ?_, fun k hk => (hb 23 k (by decide) (by decide)).trans (hc.2.1 k hk), fun k hk => (hb 24 k (by decide) (by decide)).trans (hc.2.2.1 k hk), fun k hk => (hb 25 k (by decide) (by decide)).trans (hc.2.2.2.1 k hk), (hb 21 4 (by decide) (by decide)).trans hc.2.2.2.2⟩
      have e := hc.1 k hk
      have e1 := hC.2 k
      rw [show m.1 22 k = g.1 k from e] at e1
      exact e1
    have hm1 := hm.fx f1 rfl rfl
    have hm2 : HM (nE v) m2 (shtG (nE v) x1.toNatClampNeg (shV x2 x3 x4 x5) g) := by
      refine ⟨fun k hk => ?_, fun k hk => (hb2 190 k (by decide) (by decide)).trans (hm1.2.1 k hk), fun k hk => (hb2 191 k (by decide) (by decide)).trans (hm1.2.2.1 k hk), fun k hk => (hb2 192 k (by decide) (by decide)).trans (hm1.2.2.2.1 k hk), (f2.at (nRS (ρ := 49) rfl rfl)).trans hm1.2.2.2.2⟩
      have e1 := hD.2 k
      rw [hm1.1 k hk] at e1
      exact e1
    have zb2 : ZB (nE v) (shtG (nE v) x1.toNatClampNeg (shV x2 x3 x4 x5) g) := fun k h1 h2 => by
      show (if k < 4 * nE v ∧ k % 4 = x1.toNatClampNeg then shV x2 x3 x4 x5 (k / 4) else g.1 k) = 0
      rw [if_neg (by omega)]
      exact zb k h1 h2
    exact ⟨hD.1, w2, I1.f2 f1 f2 rfl rfl, ⟨_, v, [], hc1.fx SS_21 f2 rfl, hm2, (ec.fx f1 rfl).fx f2 rfl, (em.fx f1 rfl).fx f2 rfl, (UnC.wt w1 (hz G)).fx f2 rfl rfl, UnM.wt (hz2 G), zb2, fun j hj => absurd hj (Nat.not_lt_zero j), (kp.fx f1 rfl rfl).fx f2 rfl rfl, (nx.fx f1 rfl rfl rfl).fx f2 rfl rfl rfl⟩, KB.fd kq f1 f2 kb rfl rfl⟩
  · obtain rfl := (hs G).symm
    have J : ∀ m2, WT m2 → Fx (RS [20]) m m2 → InvK (KX KG (kq + 1)) m2 := fun m2 w2 f2 => ⟨w2, I1.f2 (Fx.rf (S := RS [])) f2 rfl rfl, ⟨g, v, H, kd0.fx f2 rfl⟩, KB.fd kq (Fx.rf (S := RS [])) f2 kb rfl rfl⟩
    rcases h with ⟨q, rfl, -⟩ | ⟨q0, q1, q2, rfl, -⟩ | ⟨q0, q1, -⟩
    · refine ⟨_, rfl, hM.to ?_⟩
      rintro r2 m2 ⟨⟨w2, -, h2⟩, -, f2, -⟩
      refine ⟨?_, J m2 w2 (f2 G)⟩
      rcases h2 with ⟨-, h2, -⟩ | ⟨h2, -⟩ | ⟨h2, -⟩
      · exact h2
      · exact absurd h2 q
      · exact absurd h2 q
    · refine ⟨_, rfl, hM.to ?_⟩
      rintro r2 m2 ⟨⟨w2, -, h2⟩, -, f2, -⟩
      refine ⟨?_, J m2 w2 (f2 G)⟩
      rcases h2 with ⟨h2, -⟩ | ⟨-, -, -, h2, -⟩ | ⟨-, h2, -⟩
      · exact absurd q0 h2
      · exact h2
      · exact absurd h2 (by omega)
    · exact absurd ⟨q0, q1⟩ G
end SHL
/-! CALLS: league -/
section LGG
variable {ad : Nat → Nat} {d : Nat} {m : Wm} {g : GS} {v : EV} {H : List GS}
set_option maxHeartbeats 1000000 in
/-- what stands behind a league that was taken -/
theorem KG.lg {m1 m2 : Wm} {st dg ln sd ar fr : Nat} {wp : Bool} {il : Nat → Bool} {sk : Nat → Int32} (kd : KGd m g v H) (w2 : WT m2) (f1 : Fx (RS [0, 3, 4, 7, 8, 13, 41, 42, 44, 53]) m m1) (f2 : Fx (RS [20, 21, 22, 23, 24, 25, 27, 29, 39, 45, 46, 52]) m1 m2) (hF : wp = false → fr = nE v) (V : lcV st dg sd ar fr wp) (L : lgC m True (st, dg, ln, sd, ar, fr, wp, il, sk) m1) (E : lgE m1 ln sd ar fr wp il sk m2) (hI : lgJ (iE v) g.1 (st, dg, ln, sd, ar, fr, wp, il, sk)) : KG m2 := by
  obtain ⟨hc, hm, ec, em, uc, um, zb, zh, kp, nx⟩ := kd
  obtain ⟨c1, c2, c3, c4, c5, c6, c7, c8, c9, c10⟩ := L
  obtain ⟨b1, b2, b3, b4, b5, b6, b7, b8, b9⟩ := E
  obtain ⟨V1, V2, V3, V4, V5, V6, V7⟩ := V
  obtain ⟨i1, i2, -, i4, i5, i6⟩ := hI
  have n8 := ec.2.2.1
  have hfn : fr ≤ nE v := by
    cases wp with
    | true => have := V7 rfl; omega
    | false => have := hF rfl; omega
  have cut : ∀ (j : Nat) (f : Nat → Int32), 2 ≤ j → j ≤ 4 → (∀ s, s < 8 → m.1 (21 + j) s = f s) → ∀ s, s < 8 → m1.1 (21 + j) s = cutG fr sd wp f s := fun j f h1 h2 hf s hs => by
    rw [c10 j s h1 h2 hs, hf s hs]
    rfl
  have cutI : ∀ (f : Nat → Int32) (s : Nat), s < fr → cutG fr sd wp f s = f s := fun f s hs => if_pos (Or.inl hs)
  have cutO : ∀ (f : Nat → Int32) (s : Nat), fr ≤ s → s < sd → cutG fr sd wp f s = 0 := fun f s h1 h2 => if_neg (fun q => q.elim (fun q => by omega) (fun q => by have := q.2; omega))
  have hc1 : HC 21 m1 (sk, cutG fr sd wp g.2.1, cutG fr sd wp g.2.2.1, cutG fr sd wp g.2.2.2.1, g.2.2.2.2) := ⟨c8, cut 2 _ (by decide) (by decide) hc.2.1, cut 3 _ (by decide) (by decide) hc.2.2.1, cut 4 _ (by decide) (by decide) hc.2.2.2.1, c9.trans hc.2.2.2.2⟩
  have hm1 := hm.fx f1 rfl rfl
  have hm2 : HM sd m2 (sk, cutG fr sd wp g.2.1, cutG fr sd wp g.2.2.1, cutG fr sd wp g.2.2.2.1, g.2.2.2.2) := by
    refine ⟨fun k hk => ?_, fun t ht => ?_, fun t ht => ?_, fun t ht => ?_, (f2.at (nRS (ρ := 49) rfl rfl)).trans hm1.2.2.2.2⟩
    · by_cases q : k < 4 * fr
      · exact (b7 k q).trans ((hm1.1 k (by omega)).trans (i4 k q).symm)
      · exact b6 k (by omega) hk
    · by_cases q : t < fr
      · exact (b9 t q).1.trans ((hm1.2.1 t (by omega)).trans (cutI _ t q).symm)
      · exact (b8 t (by omega) ht).1.trans (cutO _ t (by omega) ht).symm
    · by_cases q : t < fr
      · exact (b9 t q).2.1.trans ((hm1.2.2.1 t (by omega)).trans (cutI _ t q).symm)
      · exact (b8 t (by omega) ht).2.1.trans (cutO _ t (by omega) ht).symm
    · by_cases q : t < fr
      · exact (b9 t q).2.2.1.trans ((hm1.2.2.2.1 t (by omega)).trans (cutI _ t q).symm)
      · exact (b8 t (by omega) ht).2.2.1.trans (cutO _ t (by omega) ht).symm
  have e33 : m2.1 3 3 = nI sd := (f2.at (nRS (ρ := 41) rfl rfl)).trans c1
  have e34 : m2.1 3 4 = nI ar := (f2.at (nRS (ρ := 41) rfl rfl)).trans c2
  have ec2 : EC m2 (sd, ar, lE v, (fun s => decide (s < sd) && il s), tE v, zE v) := by
    refine ⟨e33, e34, V2, V4, fun k hk => (f2.at (nRS (ρ := 43) rfl rfl)).trans ((f1.at (nRS (ρ := 43) rfl rfl)).trans (ec.2.2.2.2.1 k hk)), ⟨fun s hs => ?_, fun s hs => ?_⟩, (ec.2.2.2.2.2.2.fx f1 rfl).fx f2 rfl⟩
    · rw [f2.at (a := 3) (k := 5) (nRS (ρ := 42) rfl rfl)]
      exact c7 trivial s hs
    · have hs' : sd ≤ s := hs
      show (decide (s < sd) && il s) = false
      rw [decide_eq_false (by omega)]
      rfl
  have em2 : EM m2 (sd, ar, lE v, (fun s => decide (s < sd) && il s), tE v, zE v) := by
    obtain ⟨q1, q2, q3, q4, q5, q6, q7, q8, q9⟩ := em
    refine ⟨b1, b2, V2, V4, fun k hk => (f2.at (nRS (ρ := 47) rfl rfl)).trans ((f1.at (nRS (ρ := 47) rfl rfl)).trans (q5 k hk)), fun s hs => ?_, (f2.at (nRS (ρ := 48) rfl rfl)).trans ((f1.at (nRS (ρ := 48) rfl rfl)).trans q7), q8, fun k hk => (f2.at (nRS (ρ := 48) rfl rfl)).trans ((f1.at (nRS (ρ := 48) rfl rfl)).trans (q9 k hk))⟩
    have hs' : s < sd := hs
    show m2.1 189 s = if (decide (s < sd) && il s) = true then 1 else 0
    rw [decide_eq_true hs', Bool.true_and]
    by_cases q : s < fr
    · rw [i5 s q]
      exact (b9 s q).2.2.2.trans ((f1.at (nRS (ρ := 46) rfl rfl)).trans (q6 s (by omega)))
    · exact (b8 s (by omega) hs').2.2.2
  have nx2 : NxR m2 := by
    cases wp with
    | true =>
      have b5' : m2.1 187 10 = 0 ∧ m2.1 187 11 = 0 ∧ m2.1 187 12 = 0 ∧ _ := b5
      have c6' : m1.1 0 11 = 0 ∧ _ := c6
      exact ⟨0, 0, (f2.at (nRS (ρ := 44) rfl rfl)).trans c6'.1, b5'.2.2.1, b5'.2.1, by decide, Or.inl rfl⟩
    | false =>
      obtain ⟨nr, R, n1, n2, n3, n4, n5⟩ := nx
      have b5' : m2.1 187 10 = m1.1 187 10 ∧ m2.1 187 11 = m1.1 187 11 ∧ m2.1 187 12 = m1.1 187 12 ∧ _ := b5
      have c6' : m1.1 0 11 = m.1 0 11 ∧ _ := c6
      exact ⟨nr, R, (f2.at (nRS (ρ := 44) rfl rfl)).trans (c6'.1.trans n1), b5'.2.2.1.trans ((f1.at (nRS (ρ := 52) rfl rfl)).trans n2), b5'.2.1.trans ((f1.at (nRS (ρ := 25) rfl rfl)).trans n3), n4, n5⟩
  exact ⟨_, (sd, ar, lE v, (fun s => decide (s < sd) && il s), tE v, zE v), [], hc1.fx SS_21 f2 rfl, hm2, ec2, em2, UnC.wt w2 ((f2.at (nRS (ρ := 53) rfl rfl)).trans c4), UnM.wt b3, i6, fun j hj => absurd hj (Nat.not_lt_zero j), fun i hi hz => absurd ((f2.at (nRS (ρ := 13) rfl (rg_13 4 (by omega) (by omega)))).trans (c5 i hi)) hz, nx2⟩
set_option maxHeartbeats 1000000 in
theorem og_league (kq : Nat) (hq : kq < 1000) : Both ad d μX11_league μX12_league [] (InvK (KX KG kq)) (InvK (KX KG (kq + 1))) := fun m I => by
  have IK := I
  obtain ⟨w, I0, ⟨g, v, H, kd⟩, kb⟩ := I
  have hK : KD (KX KG kq) (KX KG (kq + 1)) := KX.kd kq KG.kd
  have kK : KX KG kq m := ⟨⟨g, v, H, kd⟩, kb⟩
  have hc := kd.1
  have ec := kd.2.2.1
  have zb := kd.2.2.2.2.2.2.1
  have en := ec.1
  have n8 := ec.2.2.1
  have hil := ec.2.2.2.2.2.1
  have I1 := I0
  obtain ⟨h1, h2, h3, h4, h5⟩ := I0
  obtain ⟨a0, ea, -, a1, a4, -⟩ := w.nat (a := 187) (k := 0) rfl (by decide)
  obtain ⟨t, et, -, -, t80, -⟩ := w.nat (a := 1) (k := 1) rfl (by decide)
  have ht14 : m.1 187 14 = nI t := h2.1.symm.trans et
  have hsd : m.1 187 1 = nI (nE v) := h3.symm.trans en
  have har : m.1 3 4 = nI a0 := h4.trans ea
  by_cases ht0 : t = 0
  · subst ht0
    refine v_X11_league (d := d + 299) ⟨fun c => absurd et c, fun _ => ⟨0, rfl, (e_leagueM0 (d := d + 295) w ht14).to ?_⟩⟩
    rintro r m2 ⟨w2, f2, rfl, k14⟩
    have e11 : m2.1 1 1 = nI 0 := (f2.at (a := 1) (k := 1) (by decide)).trans et
    exact ⟨rfl, w2, ⟨h1.fx f2 rfl, TXI.zero (by rw [e11]; rfl) (by rw [k14]; rfl), IV.sd I1 (Fx.rf (S := RS [])) f2 rfl rfl⟩, hK (Fx.rf (S := RS [])) f2 kK rfl rfl⟩
  · refine (e_leagueC (d := d + 295) (HZ := True) (il0 := iE v) (sk0 := g.1) w en (by omega) har (by omega) (by omega) et (by omega) ht0 hc.1 (fun _ s hs => ?_)).to ?_
    · rw [hil.1 s hs]
      by_cases q : s < nE v
      · rw [decide_eq_true q, Bool.true_and]
      · rw [decide_eq_false q, hil.2 s (by omega)]
        rfl
    rintro r m1 ⟨w1, f1, g2, hq1, hL⟩
    have g195 : m1.1 195 = m.1 195 := funext fun k => f1.at (nRS (ρ := 21) rfl rfl)
    have eO : LO (m.1 2) (decide (76 < t)) (minT t 76) 0 (0, 0, 0, nE v, a0, nE v, false, iE v, g.1) = LO (m1.1 195) (decide (76 < t)) (minT t 76) 0 (0, 0, 0, nE v, a0, nE v, false, iE v, g.1) := by
      rw [g195]
      refine LO_ch (fun j hj => h2.2 j ?_)
      have : minT t 76 ≤ t := by unfold minT; split <;> omega
      rw [et, nI_toInt (by omega)]
      omega
    rw [eO] at hq1 hL
    have k1 : m1.1 187 1 = nI (nE v) := (f1.at (a := 187) (k := 1) (nRS (ρ := 23) rfl rfl)).trans hsd
    have k0 : m1.1 187 0 = nI a0 := (f1.at (a := 187) (k := 0) (nRS (ρ := 23) rfl rfl)).trans ea
    have k14 : m1.1 187 14 = nI t := (f1.at (a := 187) (k := 14) (nRS (ρ := 21) rfl rfl)).trans ht14
    have hM := e_leagueM (ad := ad) (d := d + 295) w1 k1 (by omega) k0 (by omega) (by omega) k14 ht0 (by omega) (iE v) g.1
    have hFr : ∀ st dg ln sd ar fr wp il sk, LO (m1.1 195) (decide (76 < t)) (minT t 76) 0 (0, 0, 0, nE v, a0, nE v, false, iE v, g.1) = .inr (st, dg, ln, sd, ar, fr, wp, il, sk) → wp = false → fr = nE v := fun _ _ _ _ _ _ _ _ _ h => LO_fr (n := nE v) _ _ _ _ _ _ _ _ _ _ _ (fun _ => rfl) h
    have hI0 : lgJ (iE v) g.1 (0, 0, 0, nE v, a0, nE v, false, iE v, g.1) := ⟨Nat.le_refl _, by omega, fun z => absurd z (by decide), fun _ _ => rfl, fun _ _ => rfl, zb⟩
    have hIv : ∀ L', LO (m1.1 195) (decide (76 < t)) (minT t 76) 0 (0, 0, 0, nE v, a0, nE v, false, iE v, g.1) = .inr L' → lgJ (iE v) g.1 L' := fun L' h => LO_I _ _ _ hI0 h
    generalize LO (m1.1 195) (decide (76 < t)) (minT t 76) 0 (0, 0, 0, nE v, a0, nE v, false, iE v, g.1) = O at hq1 hL hM hFr hIv
    cases O with
    | inl q =>
      obtain ⟨rfl, z11, F1⟩ := hq1 q rfl
      refine ⟨_, rfl, hM.to ?_⟩
      rintro r m2 ⟨⟨w2, f2, -, z14, -⟩, hq2, -⟩
      obtain ⟨rfl, F2⟩ := hq2 q rfl
      have e11 : m2.1 1 1 = 0 := (f2.at (a := 1) (k := 1) (nRS (ρ := 0) rfl rfl)).trans z11
      exact ⟨rfl, w2, ⟨(h1.fx F1 rfl).fx F2 rfl, TXI.zero (by rw [e11]; rfl) z14, IV.sd I1 F1 F2 rfl rfl⟩, hK F1 F2 kK rfl rfl⟩
    | inr L =>
      obtain ⟨st, dg, ln, sd, ar, fr, wp, il, sk⟩ := L
      have hL1 := hL st dg ln sd ar fr wp il sk rfl
      have hF := hFr st dg ln sd ar fr wp il sk rfl
      have hI := hIv _ rfl
      have hL2 := hL1.2.2
      have hL3 : lgC m False (st, dg, ln, sd, ar, fr, wp, il, sk) m1 := ⟨hL2.1, hL2.2.1, hL2.2.2.1, hL2.2.2.2.1, hL2.2.2.2.2.1, hL2.2.2.2.2.2.1, fun z => z.elim, hL2.2.2.2.2.2.2.2⟩
      obtain ⟨rfl, V, c1, c2, c3, c4, c5, c6, -⟩ := hL1
      refine ⟨_, rfl, hM.to ?_⟩
      rintro r m2 ⟨⟨w2, f2, -, z14, -⟩, -, hE⟩
      have hE1 := (hE st dg ln sd ar fr wp il sk rfl).2
      obtain ⟨rfl, b1, b2, b3, b4, b5, -⟩ := hE st dg ln sd ar fr wp il sk rfl
      have e11 : m2.1 1 1 = 0 := (f2.at (a := 1) (k := 1) (nRS (ρ := 0) rfl rfl)).trans c3
      have e33 : m2.1 3 3 = nI sd := (f2.at (a := 3) (k := 3) (nRS (ρ := 41) rfl rfl)).trans c1
      have e34 : m2.1 3 4 = nI ar := (f2.at (a := 3) (k := 4) (nRS (ρ := 41) rfl rfl)).trans c2
      have e15 : m2.1 0 15 = m1.1 0 15 := f2.at (a := 0) (k := 15) (nRS (ρ := 8) rfl rfl)
      have q10 : m1.1 187 10 = m.1 187 10 := f1.at (a := 187) (k := 10) (nRS (ρ := 25) rfl rfl)
      have q11 : m1.1 187 11 = m.1 187 11 := f1.at (a := 187) (k := 11) (nRS (ρ := 25) rfl rfl)
      have q52 : m1.1 187 52 = m.1 187 52 := f1.at (a := 187) (k := 52) (nRS (ρ := 39) rfl rfl)
      refine ⟨rfl, w2, ⟨?_, TXI.zero (by rw [e11]; rfl) z14, e33.trans b1.symm, e34.trans b2.symm, ?_⟩, KG.lg kd w2 f1 f2 hF V hL2 hE1 hI, KB.lg kq hq m m1 m2 (nE v) st dg ln sd ar fr wp il sk ⟨w, I1, kb⟩ en n8 w1 w2 f1 f2 hF V hL3 hE1 e33⟩
      · unfold RG
        cases wp with
        | true => left; have b5' : m2.1 187 10 = 0 ∧ m2.1 187 11 = 0 ∧ _ := b5; rw [b5'.2.1]; rfl
        | false => have b5' : m2.1 187 10 = m1.1 187 10 ∧ m2.1 187 11 = m1.1 187 11 ∧ _ := b5; rw [b5'.1, b5'.2.1, q10, q11]; exact h1
      · cases wp with
        | true =>
          have b5' : _ ∧ _ ∧ _ ∧ m2.1 187 52 = 0 := b5
          have c6' : _ ∧ m1.1 0 15 = 0 ∧ _ := c6
          rw [e15, c6'.2.1, b5'.2.2.2]
        | false =>
          have b5' : _ ∧ _ ∧ _ ∧ m2.1 187 52 = m1.1 187 52 := b5
          have c6' : _ ∧ m1.1 0 15 = m.1 0 15 ∧ _ := c6
          rw [e15, c6'.2.1, b5'.2.2.2, q52]
          exact h5
end LGG
/-! CALLS: keep, again -/
section KAG
variable {ad : Nat → Nat} {d n : Nat} {m m1 m2 : Wm} {g : GS} {v : EV} {H : List GS}
theorem HL.lay {a x : Nat} {m' : Wm} (h : HM n m g) (h8 : n ≤ 8) (e : ∀ k, k < 57 → m'.1 a (x + k) = layV m k) : HL n a x m' g := by
  obtain ⟨h1, h2, h3, h4, h5⟩ := h
  have e2 : ∀ k r, k < 8 → r < 3 → m'.1 a (x + 32 + 3 * k + r) = if r = 0 then m.1 190 k else if r = 1 then m.1 191 k else m.1 192 k := fun k r hk hr => by
    have := e (32 + 3 * k + r) (by omega)
    rw [show x + (32 + 3 * k + r) = x + 32 + 3 * k + r by omega] at this
    rw [this, layV_b hk hr]
  refine ⟨h8, fun k hk => ?_, fun k hk => ?_, fun k hk => ?_, fun k hk => ?_, ?_⟩
  · rw [e k (by omega), layV_a (by omega)]
    exact h1 k hk
  · exact (e2 k 0 (by omega) (by decide)).trans (h2 k hk)
  · exact (e2 k 1 (by omega) (by decide)).trans (h3 k hk)
  · exact (e2 k 2 (by omega) (by decide)).trans (h4 k hk)
  · rw [e 56 (by decide)]
    exact h5
theorem HM.tg {a x : Nat} {m' : Wm} (h : HL n a x m g) (B : ∀ k, k < 57 → m'.1 (tgt k).1 (tgt k).2 = m.1 a (x + k)) : HM n m' g := by
  obtain ⟨h8, h1, h2, h3, h4, h5⟩ := h
  refine ⟨fun k hk => ?_, fun k hk => ?_, fun k hk => ?_, fun k hk => ?_, ?_⟩
  · have := B k (by omega)
    rw [tgA_a (by omega)] at this
    exact this.trans (h1 k hk)
  · have := B (32 + 3 * k + 0) (by omega)
    rw [tgA_b (by omega) (by decide), show x + (32 + 3 * k + 0) = x + 32 + 3 * k by omega] at this
    exact this.trans (h2 k hk)
  · have := B (32 + 3 * k + 1) (by omega)
    rw [tgA_b (by omega) (by decide), show x + (32 + 3 * k + 1) = x + 32 + 3 * k + 1 by omega] at this
    exact this.trans (h3 k hk)
  · have := B (32 + 3 * k + 2) (by omega)
    rw [tgA_b (by omega) (by decide), show x + (32 + 3 * k + 2) = x + 32 + 3 * k + 2 by omega] at this
    exact this.trans (h4 k hk)
  · exact (B 56 (by decide)).trans h5
theorem KB.kpt {c i : Nat} (hi : i < 2) (k : KB c m) (C : kpC m i m1) (M : kpM m1 i m2) : KB (c + 1) m2 := by
  obtain ⟨pl, lw, kp⟩ := k
  obtain ⟨w1, F1, j1, j2, j3, j4, j5, j6, j7⟩ := C
  obtain ⟨w2, f2, b1, b2, b3, b4, b5, b6, b7, b8⟩ := M
  have f1 : Fx (RS [13]) m m1 := (Fx.rf (S := RS [13])).tr F1 (KR_13 hi rfl)
  refine ⟨(pl.fx f1 rfl rfl rfl rfl rfl).fx f2 rfl rfl rfl rfl rfl, (lw.fx f1 rfl rfl).fx f2 rfl rfl, ?_⟩
  obtain ⟨t, ht, h53, hk⟩ := kp
  have g53 : m1.1 187 53 = nI t := (f1.at (nRS (ρ := 45) rfl rfl)).trans h53
  have k53 : m2.1 187 53 = nI t := (f2.at (nRS (ρ := 45) rfl rfl)).trans g53
  have q13 : ∀ b k, 173 ≤ b → b < 187 → m2.1 b k = m1.1 b k := fun b k h1 h2 => f2.at (nRS (ρ := 13) rfl (rg_13 k h1 h2))
  refine ⟨t, by omega, k53, fun j hj => ?_⟩
  by_cases hji : j = i
  · subst hji
    have e216 : m2.1 216 j = nI t := b2.trans g53
    refine ⟨⟨t, Nat.le_refl _, e216⟩, ⟨fun _ => ⟨by rw [b1]; decide, e216.trans k53.symm⟩, fun _ => ?_⟩, fun _ k hk2 => ?_⟩
    · rw [q13 (173 + 7 * j) 4 (by omega) (by omega), j7]; decide
    · rw [q13 (173 + 7 * j + 6) k (by omega) (by omega), j5 k hk2, b6 k hk2, f1.at (a := 193) (k := k) (nRS (ρ := 47) rfl rfl)]
      exact lw k hk2
  · obtain ⟨⟨s, hs, a1⟩, a2, a3⟩ := hk j hj
    obtain ⟨d1, d2⟩ := b3 j hji
    have c215 : m2.1 215 j = m.1 215 j := d1.trans (f1.at (nRS (ρ := 40) rfl rfl))
    have c216 : m2.1 216 j = m.1 216 j := d2.trans (f1.at (nRS (ρ := 40) rfl rfl))
    have cc : ∀ b k, 173 + 7 * j ≤ b → b ≤ 173 + 7 * j + 6 → m2.1 b k = m.1 b k := fun b k h1 h2 => (q13 b k (by omega) (by omega)).trans (F1.at (by unfold BR; omega))
    refine ⟨⟨s, hs, c216.trans a1⟩, ?_, fun hz k hk2 => ?_⟩
    · rw [cc (173 + 7 * j) 4 (by omega) (by omega), c215, c216, k53, ← h53]; exact a2
    · rw [cc (173 + 7 * j) 4 (by omega) (by omega)] at hz
      rw [cc (173 + 7 * j + 6) k (by omega) (by omega), b8 (71 * j + 65 + k) (by omega), f1.at (a := 214) (k := 71 * j + 65 + k) (nRS (ρ := 40) rfl rfl)]
      exact a3 hz k hk2
theorem KGd.kpt {i : Nat} (hi : i < 2) (kd : KGd m g v H) (C : kpC m i m1) (M : kpM m1 i m2) : KGd m2 g v H := by
  obtain ⟨hc, hm, ec, em, uc, um, zb, zh, kp, nx⟩ := kd
  obtain ⟨w1, F1, j1, j2, j3, j4, j5, j6, j7⟩ := C
  obtain ⟨w2, f2, b1, b2, b3, b4, b5, b6, b7, b8⟩ := M
  have n8 := ec.2.2.1
  have f1 : Fx (RS [13]) m m1 := (Fx.rf (S := RS [13])).tr F1 (KR_13 hi rfl)
  have q13 : ∀ b k, 173 ≤ b → b < 187 → m2.1 b k = m1.1 b k := fun b k h1 h2 => f2.at (nRS (ρ := 13) rfl (rg_13 k h1 h2))
  refine ⟨(hc.fx SS_21 f1 rfl).fx SS_21 f2 rfl, (hm.fx f1 rfl rfl).fx f2 rfl rfl, (ec.fx f1 rfl).fx f2 rfl, (em.fx f1 rfl).fx f2 rfl, (uc.fx f1 rfl rfl).fx f2 rfl rfl, (um.fx f1 rfl).fx f2 rfl, zb, zh, fun j hj hz => ?_, (nx.fx f1 rfl rfl rfl).fx f2 rfl rfl rfl⟩
  by_cases hji : j = i
  · subst hji
    obtain ⟨nr, R, n1, n2, n3, n4, n5⟩ := nx
    have k3 : m2.1 (173 + 7 * j) 3 = nI nr := (q13 _ 3 (by omega) (by omega)).trans (j6.trans n1)
    have k70 : m2.1 214 (71 * j + 70) = nI nr := b7.trans ((f1.at (nRS (ρ := 52) rfl rfl)).trans n2)
    have hC : HC (173 + 7 * j + 1) m1 g := ⟨fun k hk => (j1 k hk).trans (hc.1 k hk), fun k hk => (j2 2 k (by decide) (by decide) hk).trans (hc.2.1 k hk), fun k hk => (j2 3 k (by decide) (by decide) hk).trans (hc.2.2.1 k hk), fun k hk => (j2 4 k (by decide) (by decide) hk).trans (hc.2.2.2.1 k hk), j3.trans hc.2.2.2.2⟩
    refine ⟨g, iE v, hC.fx (SS_i hj) f2 rfl, HL.lay (hm.fx f1 rfl rfl) n8 b4, zb, fun s hs => ?_, ec.2.2.2.2.2.1.2, fun s hs => ?_, k3.trans k70.symm, ?_⟩
    · rw [q13 _ 2 (by omega) (by omega), j4]
      exact ec.2.2.2.2.2.1.1 s hs
    · rw [b5 s (by omega), f1.at (a := 189) (k := s) (nRS (ρ := 46) rfl rfl), em.2.2.2.2.2.1 s hs]
      by_cases q : iE v s = true
      · rw [if_pos q]; rfl
      · rw [if_neg q]; rfl
    · rw [k3, nI_toInt (by omega)]
      omega
  · have cc : ∀ b k, 173 + 7 * j ≤ b → b ≤ 173 + 7 * j + 6 → m2.1 b k = m.1 b k := fun b k h1 h2 => (q13 b k (by omega) (by omega)).trans (F1.at (by unfold BR; omega))
    have cm : ∀ k, 71 * j ≤ k → k < 71 * j + 71 → m2.1 214 k = m.1 214 k := fun k h1 h2 => (b8 k (by omega)).trans (f1.at (nRS (ρ := 40) rfl rfl))
    rw [cc (173 + 7 * j) 4 (by omega) (by omega)] at hz
    obtain ⟨g', il, h1, h2, h3, h4, h4b, h4c, h5, h6⟩ := kp j hj hz
    have hC : HC (173 + 7 * j + 1) m2 g' := ⟨fun k hk => (cc _ k (by omega) (by omega)).trans (h1.1 k hk), fun k hk => (cc _ k (by omega) (by omega)).trans (h1.2.1 k hk), fun k hk => (cc _ k (by omega) (by omega)).trans (h1.2.2.1 k hk), fun k hk => (cc _ k (by omega) (by omega)).trans (h1.2.2.2.1 k hk), (cc _ 4 (by omega) (by omega)).trans h1.2.2.2.2⟩
    rw [cc (173 + 7 * j) 3 (by omega) (by omega)]
    refine ⟨g', il, hC, h2.k (fun k q1 q2 => cm k (by omega) (by omega)), h3, fun s hs => ?_, h4b, fun s hs => (cm _ (by omega) (by omega)).trans (h4c s hs), h5.trans (cm _ (by omega) (by omega)).symm, h6⟩
    rw [cc (173 + 7 * j) 2 (by omega) (by omega)]
    exact h4 s hs
theorem og_keep (c : Nat) (a : Int32) : Both ad d μX11_keep μX12_keep [.int a] (InvK (KX KG c)) (InvK (KX KG (c + 1))) := fun m I => by
  obtain ⟨w, I1, ⟨g, v, H, kd⟩, kb⟩ := I
  refine (e_keepC (d := d + 297) w).to ?_
  rintro r m1 (⟨i, hi, hx, rfl, C⟩ | ⟨hx, rfl, e⟩)
  · have f1 : Fx (RS [13]) m m1 := (Fx.rf (S := RS [13])).tr C.2.1 (KR_13 hi rfl)
    refine ⟨1, rfl, (e_keepM (d := d + 298) C.1).to ?_⟩
    rintro r m2 (⟨i', hi', hx', rfl, M⟩ | ⟨hx', -⟩)
    · have hii : i' = i := ((nI_eq (a := i) (b := i') (by omega) (by omega)).mp (hx.symm.trans hx')).symm
      subst hii
      exact ⟨rfl, M.1, I1.f2 f1 M.2.1 rfl rfl, ⟨g, v, H, KGd.kpt hi kd C M⟩, KB.kpt hi kb C M⟩
    · have hx2 : a.toInt = i := by rw [hx, nI_toInt (by omega)]
      omega
  · obtain rfl := e.symm
    refine ⟨0, rfl, (e_keepM (d := d + 298) w).to ?_⟩
    rintro r m2 (⟨i', hi', hx', -⟩ | ⟨-, rfl, w2, f2⟩)
    · have : a.toInt = i' := by rw [hx', nI_toInt (by omega)]
      omega
    · exact ⟨rfl, w2, I1.f2 (Fx.rf (S := RS [])) f2 rfl rfl, ⟨g, v, H, kd.fx f2 rfl⟩, KB.fd c (Fx.rf (S := RS [])) f2 kb rfl rfl⟩
theorem KB.ag {c i P : Nat} (hi : i < 2) (hz : m.1 (173 + 7 * i) 4 ≠ 0) (k : KB c m) (C : agC m i P m1) (M : agM m1 i m2) : KB (c + 1) m2 := by
  obtain ⟨pl, lw, kp⟩ := k
  have kp0 := kp
  obtain ⟨t, ht, h53, hk⟩ := kp0
  obtain ⟨w1, f1, j1, j2, j3, j4, j5, j6, j7⟩ := C
  obtain ⟨w2, f2, b1, b2, b3, b4, b5⟩ := M
  refine ⟨(pl.fx f1 rfl rfl rfl rfl rfl).fx f2 rfl rfl rfl rfl rfl, fun k hk2 => ?_, ((kp.fx f1 rfl rfl rfl).fx f2 rfl rfl rfl).up⟩
  rw [f2.at (a := 4) (k := k) (nRS (ρ := 43) rfl rfl), j5 k hk2, b3 k hk2, f1.at (a := 214) (k := 71 * i + 65 + k) (nRS (ρ := 40) rfl rfl)]
  exact (hk i hi).2.2 hz k hk2
theorem KGd.ag {c i P Q : Nat} (hi : i < 2) (hz : m.1 (173 + 7 * i) 4 ≠ 0) (kd : KGd m g v H) (kb : KB c m) (hR : PRF m P Q) (X : PlX P m) (C : agC m i P m1) (M : agM m1 i m2) : KG m2 := by
  obtain ⟨hc, hm, ec, em, uc, um, zb, zh, kp, nx⟩ := kd
  obtain ⟨pl, lw, t, ht, h53, hk⟩ := kb
  obtain ⟨w1, f1, j1, j2, j3, j4, j5, j6, j7⟩ := C
  obtain ⟨w2, f2, b1, b2, b3, b4, b5⟩ := M
  obtain ⟨g', il, h1, h2, h3, h4, h4b, h4c, h5, h6a, h6b⟩ := kp i hi hz
  have hlw := (hk i hi).2.2 hz
  have hc1 : HC 21 m1 g' := ⟨fun k hk => (j1 k hk).trans (h1.1 k hk), fun k hk => (j2 2 k (by decide) (by decide) hk).trans (h1.2.1 k hk), fun k hk => (j2 3 k (by decide) (by decide) hk).trans (h1.2.2.1 k hk), fun k hk => (j2 4 k (by decide) (by decide) hk).trans (h1.2.2.2.1 k hk), j3.trans h1.2.2.2.2⟩
  have h2' : HL (nE v) 214 (71 * i) m1 g' := h2.k (fun k _ _ => f1.at (nRS (ρ := 40) rfl rfl))
  have ec2 : EC m2 (v.1, v.2.1, (fun k => m.1 (173 + 7 * i + 6) k), il, v.2.2.2.2) := by
    obtain ⟨q1, q2, q3, q4, q5, q6, q7⟩ := ec
    refine ⟨(f2.at (nRS (ρ := 41) rfl rfl)).trans ((f1.at (nRS (ρ := 41) rfl rfl)).trans q1), (f2.at (nRS (ρ := 41) rfl rfl)).trans ((f1.at (nRS (ρ := 41) rfl rfl)).trans q2), q3, q4, fun k hk => (f2.at (nRS (ρ := 43) rfl rfl)).trans (j5 k hk), ⟨fun s hs => ?_, h4b⟩, (q7.fx f1 rfl).fx f2 rfl⟩
    rw [f2.at (a := 3) (k := 5) (nRS (ρ := 42) rfl rfl), j4]
    exact h4 s hs
  have em2 : EM m2 (v.1, v.2.1, (fun k => m.1 (173 + 7 * i + 6) k), il, v.2.2.2.2) := by
    obtain ⟨q1, q2, q3, q4, q5, q6, q7, q8, q9⟩ := em
    refine ⟨(f2.at (nRS (ρ := 23) rfl rfl)).trans ((f1.at (nRS (ρ := 23) rfl rfl)).trans q1), (f2.at (nRS (ρ := 23) rfl rfl)).trans ((f1.at (nRS (ρ := 23) rfl rfl)).trans q2), q3, q4, fun k hk => ?_, fun s hs => ?_, (f2.at (nRS (ρ := 48) rfl rfl)).trans ((f1.at (nRS (ρ := 48) rfl rfl)).trans q7), q8, fun k hk => (f2.at (nRS (ρ := 48) rfl rfl)).trans ((f1.at (nRS (ρ := 48) rfl rfl)).trans (q9 k hk))⟩
    · rw [b3 k hk, f1.at (a := 214) (k := 71 * i + 65 + k) (nRS (ρ := 40) rfl rfl)]
      exact (hlw k hk).symm
    · have hs' : s < nE v := hs
      have n8 : nE v ≤ 8 := q3
      rw [b2 s (by omega), f1.at (a := 214) (k := 71 * i + 57 + s) (nRS (ρ := 40) rfl rfl), h4c s hs']
      show _ = if il s = true then 1 else 0
      by_cases q : il s = true
      · rw [if_pos q]; rfl
      · rw [if_neg q]; rfl
  have nx2 : NxR m2 := by
    obtain ⟨nr, R, n1, n2, n3, n4, n5⟩ := nx
    obtain ⟨n', R', g1, sn, x1, x2, x3, x4, -, -, x7, -⟩ := X
    have hRR : R' = R := (nI_eq (a := R') (b := R) (by omega) (by omega)).mp (x4.symm.trans n3)
    subst hRR
    obtain ⟨k, hk', ek⟩ := zn_of h6a
    rw [ek, nI_toInt hk'] at h6b
    have e11 : m1.1 187 11 = nI R' := (f1.at (nRS (ρ := 25) rfl rfl)).trans n3
    have e70 : m1.1 214 (71 * i + 70) = nI k := (f1.at (nRS (ρ := 40) rfl rfl)).trans (h5.symm.trans ek)
    have e11' : m2.1 187 11 = nI R' := (f2.at (nRS (ρ := 25) rfl rfl)).trans e11
    have e0 : m2.1 0 11 = m1.1 0 11 := f2.at (nRS (ρ := 44) rfl rfl)
    rw [x3, ek, nI_toInt (by omega)] at j7
    rw [e11, e70] at b5
    by_cases hR0 : R' = 0
    · rw [if_pos (by omega)] at j7
      rw [if_pos (by rw [hR0]; rfl)] at b5
      exact ⟨0, R', e0.trans j7, b5, e11', n4, Or.inl rfl⟩
    · rw [if_neg (by omega), nI_rem (by omega) (by omega) (by omega)] at j7
      rw [if_neg (show ¬ nI R' = 0 from fun z => hR0 ((nI_eq (a := R') (b := 0) (by omega) (by omega)).mp z)), nI_rem (by omega) (by omega) (by omega)] at b5
      exact ⟨k % R', R', e0.trans j7, b5, e11', n4, Or.inr (Nat.mod_lt k (by omega))⟩
  exact ⟨g', (v.1, v.2.1, (fun k => m.1 (173 + 7 * i + 6) k), il, v.2.2.2.2), [], hc1.fx SS_21 f2 rfl, HM.tg h2' b1, ec2, em2, UnC.wt w2 ((f2.at (nRS (ρ := 53) rfl rfl)).trans j6), UnM.wt b4, h3, fun j hj => absurd hj (Nat.not_lt_zero j), (kp.fx f1 rfl rfl).fx f2 rfl rfl, nx2⟩
theorem og_again (c : Nat) (a : Int32) : Both ad d μX11_again μX12_again [.int a] (InvK (KX KG c)) (InvK (KX KG (c + 1))) := fun m I => by
  obtain ⟨w, I1, ⟨g, v, H, kd⟩, kb⟩ := I
  have kb0 := kb
  obtain ⟨⟨P, Q, hR, X⟩, lw, t, ht, h53, hk⟩ := kb
  refine (e_againC (d := d + 297) w hR.1).to ?_
  rintro r m1 (⟨i, hi, hx, hz, rfl, C⟩ | ⟨hx, rfl, e⟩)
  · have f1 := C.2.1
    refine ⟨1, rfl, (e_againM (d := d + 298) C.1).to ?_⟩
    rintro r m2 (⟨i', hi', hx', hz', rfl, M⟩ | ⟨hx', -⟩)
    · have hii : i' = i := ((nI_eq (a := i) (b := i') (by omega) (by omega)).mp (hx.symm.trans hx')).symm
      subst hii
      exact ⟨rfl, M.1, I1.f2 f1 M.2.1 rfl rfl, KGd.ag hi hz kd kb0 hR X C M, KB.ag hi hz kb0 C M⟩
    · refine absurd ?_ (hx' i hi hx)
      rw [f1.at (a := 215) (k := i) (nRS (ρ := 40) rfl rfl), f1.at (a := 216) (k := i) (nRS (ρ := 40) rfl rfl), f1.at (a := 187) (k := 53) (nRS (ρ := 45) rfl rfl)]
      exact (hk i hi).2.1.mp hz
  · obtain rfl := e.symm
    refine ⟨0, rfl, (e_againM (d := d + 298) w).to ?_⟩
    rintro r m2 (⟨i', hi', hx', hz', -⟩ | ⟨-, rfl, w2, f2⟩)
    · exact absurd (hx i' hi' hx') ((hk i' hi').2.1.mpr hz')
    · exact ⟨rfl, w2, I1.f2 (Fx.rf (S := RS [])) f2 rfl rfl, ⟨g, v, H, kd.fx f2 rfl⟩, KB.fd c (Fx.rf (S := RS [])) f2 kb0 rfl rfl⟩
end KAG
