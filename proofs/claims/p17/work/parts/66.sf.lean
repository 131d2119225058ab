/-! CALLS: rule; and those that search, as far as what stands goes -/
section RUG
variable {ad : Nat → Nat} {d n : Nat} {m m' m1 m2 : Wm} {g : GS} {v : EV} {H : List GS} {S : List Nat}
theorem KG.ru (k : KG m) : RuK m := by
  obtain ⟨g, v, H, kd⟩ := k
  obtain ⟨-, -, ec, em, -⟩ := kd
  obtain ⟨P, Q, hR, cl, hX, hv⟩ := ec.2.2.2.2.2.2
  obtain ⟨-, -, -, -, -, -, q7, q8, q9⟩ := em
  refine ⟨P, Q, hR, cl, zE v, hX, q7, q8, ?_⟩
  rcases hv with hv | ⟨z1, z2, z3⟩
  · exact Or.inl hv
  · refine Or.inr ⟨z1, z2, fun lt => ?_⟩
    rw [z3 lt, prF_ch (tx := m.1 200) (tb := tE v) (fun k hk => q9 k hk)]
theorem KG.rr (c : Nat) : ∀ m, KX KG c m → ∃ P Q, RuR m P Q := fun m k => by
  obtain ⟨P, Q, h, -⟩ := k.1.ru
  exact ⟨P, Q, h⟩
theorem KG.rl (c : Nat) : RLH (KX KG c) (KX KG (c + 1)) := fun m m1 m2 I w1 w2 f1 f2 h => by
  obtain ⟨w, I1, ⟨g, v, H, kd⟩, kb⟩ := I
  have hr := h (KG.ru ⟨g, v, H, kd⟩)
  obtain ⟨hc, hm, ec, em, uc, um, zb, zh, kp, nx⟩ := kd
  obtain ⟨P, Q, hR, cl, z, hX, h27, hz, hv⟩ := hr
  obtain ⟨p1, p2, p3, p4, p5, p6, p7⟩ := ec
  obtain ⟨q1, q2, q3, q4, q5, q6, q7, q8, q9⟩ := em
  have ec2 : EC m2 (v.1, v.2.1, v.2.2.1, v.2.2.2.1, m2.1 200, z) := by
    refine ⟨(f2.at (nRS (ρ := 41) rfl rfl)).trans ((f1.at (nRS (ρ := 41) rfl rfl)).trans p1), (f2.at (nRS (ρ := 41) rfl rfl)).trans ((f1.at (nRS (ρ := 41) rfl rfl)).trans p2), p3, p4, fun k hk => (f2.at (nRS (ρ := 43) rfl rfl)).trans ((f1.at (nRS (ρ := 43) rfl rfl)).trans (p5 k hk)), ⟨fun s hs => ?_, p6.2⟩, P, Q, hR, cl, hX, hv⟩
    rw [f2.at (a := 3) (k := 5) (nRS (ρ := 42) rfl rfl), f1.at (a := 3) (k := 5) (nRS (ρ := 42) rfl rfl)]
    exact p6.1 s hs
  have em2 : EM m2 (v.1, v.2.1, v.2.2.1, v.2.2.2.1, m2.1 200, z) := ⟨(f2.at (nRS (ρ := 23) rfl rfl)).trans ((f1.at (nRS (ρ := 23) rfl rfl)).trans q1), (f2.at (nRS (ρ := 23) rfl rfl)).trans ((f1.at (nRS (ρ := 23) rfl rfl)).trans q2), q3, q4, fun k hk => (f2.at (nRS (ρ := 47) rfl rfl)).trans ((f1.at (nRS (ρ := 47) rfl rfl)).trans (q5 k hk)), fun s hs => (f2.at (nRS (ρ := 46) rfl rfl)).trans ((f1.at (nRS (ρ := 46) rfl rfl)).trans (q6 s hs)), h27, hz, fun _ _ => rfl⟩
  exact ⟨⟨g, (v.1, v.2.1, v.2.2.1, v.2.2.2.1, m2.1 200, z), H, (hc.fx SS_21 f1 rfl).fx SS_21 f2 rfl, (hm.fx f1 rfl rfl).fx f2 rfl rfl, ec2, em2, (uc.fx f1 rfl rfl).fx f2 rfl rfl, (um.fx f1 rfl).fx f2 rfl, zb, zh, (kp.fx f1 rfl rfl).fx f2 rfl rfl, (nx.fx f1 rfl rfl rfl).fx f2 rfl rfl rfl⟩, KB.rl c kb f1 f2⟩
/-- KGL without the model's league and its luck -/
def KGH : List Nat := [1, 4, 6, 13, 23, 25, 29, 40, 41, 42, 43, 44, 46, 47, 48, 52, 53]
theorem KGd.hms (h : KGd m g v H) (f : Fx (RS S) m m') (e : (S.all fun x => !(KGH.elem x)) = true) (hm2 : HM (nE v) m' g) : KGd m' g v H := by
  obtain ⟨hc, hm, ec, em, uc, um, zb, zh, kp, nx⟩ := h
  have q : ∀ ρ, KGH.elem ρ = true → S.elem ρ = false := fun ρ hρ => all_ne e hρ
  exact ⟨hc.fx SS_21 f (q 4 rfl), hm2, ec.fx f (all_sub e (by decide)), em.fx f (all_sub e (by decide)), uc.fx f (q 6 rfl) (q 53 rfl), um.fx f (q 29 rfl), zb, zh, kp.fx f (q 13 rfl) (q 40 rfl), nx.fx f (q 44 rfl) (q 52 rfl) (q 25 rfl)⟩
/-- a call that leaves the class's league alone, and gives the model's back -/
theorem og_w {μ μ' : MI} {as : List Value} {c : Nat} {A B : List Nat} (hC : ∀ m, WT m → Ct ad μ (d + 300) (.ref (ad 0) :: as) m (fun r m1 => WT m1 ∧ Fx (RS A) m m1 ∧ ∃ v : Int32, r = some (.int v)))
    (hM : ∀ m g n, WT m → HM n m g → m.1 187 1 = nI n → n ≤ 8 → RG m → Ct ad μ' (d + 300) (.ref (ad 187) :: as) m (RP B n m g))
    (a1 : (A.all fun x => !(KGL.elem x)) = true) (a2 : (A.all fun x => !(IL.elem x)) = true) (a3 : (A.all fun x => !(KLB.elem x)) = true)
    (b1 : (B.all fun x => !(KGH.elem x)) = true) (b2 : (B.all fun x => !(IL.elem x)) = true) (b3 : (B.all fun x => !(KLB.elem x)) = true) : BothW ad d μ μ' as (InvK (KX KG c)) (InvK (KX KG (c + 1))) := fun m I => by
  obtain ⟨w, I1, ⟨g, v, H, kd⟩, kb⟩ := I
  refine (hC m w).to ?_
  rintro _ m1 ⟨w1, f1, v1, rfl⟩
  have kd1 := kd.fx f1 a1
  have J1 := I1.fx f1 a2
  refine ⟨⟨_, rfl⟩, (hM m1 g (nE v) w1 kd1.2.1 kd1.2.2.2.1.1 kd1.2.2.1.2.2.1 J1.1).to ?_⟩
  rintro _ m2 ⟨w2, f2, hm2, v2, rfl⟩
  exact ⟨⟨_, rfl⟩, w2, J1.fx f2 b2, ⟨g, v, H, kd1.hms f2 b1 hm2⟩, KB.fd c f1 f2 kb a3 b3⟩
theorem og_rest (c : Nat) : BothW ad d μX11_rest μX12_rest [] (InvK (KX KG c)) (InvK (KX KG (c + 1))) := og_w (fun _ w => s_X11_rest w) (fun _ _ _ w hm hs h8 _ => r_rest (d := d + 122) w hm hs h8) rfl rfl rfl rfl rfl rfl
theorem og_mean (c : Nat) (x1 x2 : Int32) : BothW ad d μX11_mean μX12_mean [.int x1, .int x2] (InvK (KX KG c)) (InvK (KX KG (c + 1))) := og_w (fun _ w => s_X11_mean w) (fun _ _ _ w hm hs h8 _ => r_mean (d := d + 122) w hm hs h8) rfl rfl rfl rfl rfl rfl
theorem og_soon (c : Nat) (x1 x2 x3 : Int32) : BothW ad d μX11_soon μX12_soon [.int x1, .int x2, .int x3] (InvK (KX KG c)) (InvK (KX KG (c + 1))) := og_w (fun _ w => s_X11_soon w) (fun _ _ _ w hm hs h8 _ => r_soon (d := d + 122) w hm hs h8) rfl rfl rfl rfl rfl rfl
theorem og_top (c : Nat) (x1 x2 x3 : Int32) : BothW ad d μX11_top μX12_top [.int x1, .int x2, .int x3] (InvK (KX KG c)) (InvK (KX KG (c + 1))) := og_w (fun _ w => s_X11_top w) (fun _ _ _ w hm hs h8 _ => r_top (d := d + 122) w hm hs h8) rfl rfl rfl rfl rfl rfl
theorem og_quick (c : Nat) (x1 : Int32) : BothW ad d μX11_quick μX12_quick [.int x1] (InvK (KX KG c)) (InvK (KX KG (c + 1))) := og_w (fun _ w => s_X11_quick w) (fun _ _ _ w hm hs h8 _ => r_quick (d := d + 122) w hm hs h8) rfl rfl rfl rfl rfl rfl
theorem og_best (c : Nat) (x1 x2 : Int32) : BothW ad d μX11_best μX12_best [.int x1, .int x2] (InvK (KX KG c)) (InvK (KX KG (c + 1))) := og_w (fun _ w => s_X11_best w) (fun _ _ _ w hm hs h8 _ => r_best (d := d + 122) w hm hs h8) rfl rfl rfl rfl rfl rfl
theorem og_even (c : Nat) (x1 : Int32) : BothW ad d μX11_even μX12_even [.int x1] (InvK (KX KG c)) (InvK (KX KG (c + 1))) := og_w (fun _ w => s_X11_even w) (fun _ _ _ w hm hs h8 _ => r_even (d := d + 122) w hm hs h8) rfl rfl rfl rfl rfl rfl
theorem og_all (c : Nat) : BothW ad d μX11_all μX12_all [] (InvK (KX KG c)) (InvK (KX KG (c + 1))) := og_w (fun _ w => s_X11_all w) (fun _ _ _ w hm hs h8 _ => r_all (d := d + 122) w hm hs h8) rfl rfl rfl rfl rfl rfl
end RUG
/-! CALLS: wins, hopes, as far as what stands goes -/
section WNX
variable {ad : Nat → Nat} {n : Nat} {m : Wm} {g : GS}
theorem RG.ten (h : RG m) (h11 : ¬ m.1 187 11 = 0) : 1 ≤ (m.1 187 10).toInt := by
  have z0 : (0 : Int32).toInt = 0 := rfl
  rcases h with q | q
  · exact absurd ((fa_eq _ _).mpr (q.trans z0.symm)) h11
  · exact q
theorem r_wins {d : Nat} {x1 x2 x3 : Int32} (w : WT m) (hm : HM n m g) (h8 : n ≤ 8) (hR : RG m) : Ct ad μX12_wins (d + 191) [.ref (ad 187), .int x1, .int x2, .int x3] m (RP [20, 22, 24, 26, 28, 36, 37, 49] n m g) := by
  have w0 : WT (uI m 187 17 0) := w.n rfl
  have f0 : Fx (RS [20, 22, 24, 26, 28, 36, 37, 49]) m (uI m 187 17 0) := Fx.rf.i rfl
  have hm0 : HM n (uI m 187 17 0) g := hm
  have nn : ∀ x : Int32, RP [20, 22, 24, 26, 28, 36, 37, 49] n m g (some (.int x)) (uI m 187 17 0) := fun x => ⟨w0, f0, hm0, x, rfl⟩
  refine v_X12_wins (d := d + 190) ((isSideH (d := d + 189) w0).to ?_)
  rintro _ m1 ⟨eq, v1, rfl, -⟩
  obtain rfl := eq.symm
  refine ⟨v1, rfl, fun _ => nn _, fun _ => (inH (lo := 1) (hi := 6) rfl rfl).to ?_⟩
  rintro _ m1 ⟨eq, v2, rfl, y2⟩
  obtain rfl := eq.symm
  refine ⟨v2, rfl, fun _ => nn _, fun n2 => (inH (lo := 0) (hi := x2) rfl rfl).to ?_⟩
  rintro _ m1 ⟨eq, v3, rfl, -⟩
  obtain rfl := eq.symm
  refine ⟨v3, rfl, fun _ => nn _, fun _ => ⟨fun n11 => ?_, fun _ => nn _⟩⟩
  have z1 : (1 : Int32).toInt = 1 := rfl
  have z6 : (6 : Int32).toInt = 6 := rfl
  have y2' := y2.resolve_left n2
  refine (r_chanceOfWins (d := d) h8 w0 hm0 (by omega) (by omega) (RG.ten (m := m) hR n11)).to ?_
  rintro _ m2 ⟨w2, f2, hm2, v4, rfl⟩
  refine ⟨v4, rfl, ?_⟩
  have w3 : WT (uI m2 187 16 (0 : Int32)) := w2.t rfl (by decide) (by decide)
  have f3 : Fx (RS [20, 22, 24, 26, 28, 36, 37, 49]) m (uI m2 187 16 (0 : Int32)) := (f0.tr f2 (RS_sub rfl)).i rfl
  have hm3 : HM n (uI m2 187 16 (0 : Int32)) g := hm2
  refine (s_X12_power100 w3 (by omega) (by omega)).to ?_
  rintro _ m4 ⟨w4, f4, v5, rfl, n5⟩
  have e16 : (m4.1 187 16).toInt = 0 := by
    rw [f4.at (a := 187) (k := 16) (nRS (ρ := 26) rfl rfl), u_eq]
    rfl
  refine ⟨v5, rfl, (s_X12_tellPart (d := d + 50) w4 n5 (by omega)).to ?_⟩
  rintro _ m5 ⟨w5, f5, rfl, -⟩
  exact ⟨rfl, w5, (f3.tr f4 (RS_sub rfl)).tr f5 (RS_sub rfl), (hm3.fx f4 rfl rfl).fx f5 rfl rfl, 0, rfl⟩
theorem r_hopes {d : Nat} {x1 : Int32} (w : WT m) (hm : HM n m g) (h8 : n ≤ 8) (hR : RG m) : Ct ad μX12_hopes (d + 191) [.ref (ad 187), .int x1] m (RP [20, 22, 24, 26, 28, 36, 37, 49] n m g) := by
  have w0 : WT (uI m 187 17 0) := w.n rfl
  have f0 : Fx (RS [20, 22, 24, 26, 28, 36, 37, 49]) m (uI m 187 17 0) := Fx.rf.i rfl
  have hm0 : HM n (uI m 187 17 0) g := hm
  have nn : ∀ x : Int32, RP [20, 22, 24, 26, 28, 36, 37, 49] n m g (some (.int x)) (uI m 187 17 0) := fun x => ⟨w0, f0, hm0, x, rfl⟩
  refine v_X12_hopes (d := d + 190) ((inH (lo := 1) (hi := 6) rfl rfl).to ?_)
  rintro _ m1 ⟨eq, v2, rfl, y2⟩
  obtain rfl := eq.symm
  refine ⟨v2, rfl, fun _ => nn _, fun n2 => ⟨fun n11 => ?_, fun _ => nn _⟩⟩
  have z1 : (1 : Int32).toInt = 1 := rfl
  have z6 : (6 : Int32).toInt = 6 := rfl
  have y2' := y2.resolve_left n2
  have wa : WT (uI (uI (uI m 187 17 0) 187 48 (256 : Int32)) 187 49 (0 : Int32)) := (w0.n rfl).n rfl
  have fa : Fx (RS [20, 22, 24, 26, 28, 36, 37, 49]) m (uI (uI (uI m 187 17 0) 187 48 (256 : Int32)) 187 49 (0 : Int32)) := (f0.i rfl).i rfl
  have hma : HM n (uI (uI (uI m 187 17 0) 187 48 (256 : Int32)) 187 49 (0 : Int32)) g := hm
  refine (r_hopeOf (d := d) h8 wa hma (by omega) (by omega) (RG.ten (m := m) hR n11)).to ?_
  rintro _ m2 ⟨w2, f2, hm2, v4, rfl⟩
  refine ⟨v4, rfl, ?_⟩
  have w3 : WT (uI m2 187 16 (0 : Int32)) := w2.t rfl (by decide) (by decide)
  have f3 : Fx (RS [20, 22, 24, 26, 28, 36, 37, 49]) m (uI m2 187 16 (0 : Int32)) := (fa.tr f2 (RS_sub rfl)).i rfl
  have hm3 : HM n (uI m2 187 16 (0 : Int32)) g := hm2
  refine (s_X12_power100 w3 (by omega) (by omega)).to ?_
  rintro _ m4 ⟨w4, f4, v5, rfl, n5⟩
  have e16 : (m4.1 187 16).toInt = 0 := by
    rw [f4.at (a := 187) (k := 16) (nRS (ρ := 26) rfl rfl), u_eq]
    rfl
  refine ⟨v5, rfl, (s_X12_tellPart (d := d + 50) w4 n5 (by omega)).to ?_⟩
  rintro _ m5 ⟨w5, f5, rfl, p5⟩
  refine ⟨rfl, (s_X12_tell w5 (by omega)).to ?_⟩
  rintro _ m6 ⟨w6, f6, rfl, p6⟩
  refine ⟨rfl, (s_X12_tell w6 (by omega)).to ?_⟩
  rintro _ m7 ⟨w7, f7, rfl, -⟩
  exact ⟨rfl, w7, (((f3.tr f4 (RS_sub rfl)).tr f5 (RS_sub rfl)).tr f6 (RS_sub rfl)).tr f7 (RS_sub rfl), (((hm3.fx f4 rfl rfl).fx f5 rfl rfl).fx f6 rfl rfl).fx f7 rfl rfl, 0, rfl⟩
theorem og_wins {d : Nat} (c : Nat) (x1 x2 x3 : Int32) : BothW ad d μX11_wins μX12_wins [.int x1, .int x2, .int x3] (InvK (KX KG c)) (InvK (KX KG (c + 1))) := og_w (fun _ w => s_X11_wins w) (fun _ _ _ w hm _ h8 hR => r_wins (d := d + 109) w hm h8 hR) rfl rfl rfl rfl rfl rfl
theorem og_hopes {d : Nat} (c : Nat) (x1 : Int32) : BothW ad d μX11_hopes μX12_hopes [.int x1] (InvK (KX KG c)) (InvK (KX KG (c + 1))) := og_w (fun _ w => s_X11_hopes w) (fun _ _ _ w hm _ h8 hR => r_hopes (d := d + 109) w hm h8 hR) rfl rfl rfl rfl rfl rfl
end WNX
/-! LAWS AND ILLNESS THAT ARE CHANGED AND GIVEN BACK -/
section PYL
variable {ad : Nat → Nat} {d : Nat} {m m' m1 : Wm} {g : GS} {v : EV} {H : List GS} {p : PLN} {S : List Nat}
theorem run_sv {lk : Bool} : ∀ (k j : Nat) (T : RSt), (runR lk false v p k j T).2.1 = T.2.1 := by
  intro k
  induction k with
  | zero => intro j T; rfl
  | succ k ih => intro j T; exact ih (j + 1) (stepR lk false v p j T)
theorem rds_sv {lk : Bool} : ∀ (k ρ : Nat) (T : RSt), (rdsR lk false v p k ρ T).2.1 = T.2.1 := by
  intro k
  induction k with
  | zero => intro ρ T; rfl
  | succ k ih => intro ρ T; exact (ih _ _).trans (run_sv _ _ _)
theorem xor2 {a b : Int32} : (a ^^^ b) ^^^ b = a := b_ext (fun i _ => by rw [b_xor, b_xor, Bool.xor_assoc, Bool.xor_self, Bool.xor_false])
theorem EC.ke (h : EC m v) (f : Fx (RS S) m m') (e : (S.all fun x => !(([1, 41] : List Nat).elem x)) = true) (h4 : ∀ k, k < 5 → m'.1 4 k = m.1 4 k) (h35 : m'.1 3 5 = m.1 3 5) : EC m' v := by
  obtain ⟨p1, p2, p3, p4, p5, p6, p7⟩ := h
  refine ⟨(f.at (nRS (all_ne e (ρ := 41) rfl) rfl)).trans p1, (f.at (nRS (all_ne e (ρ := 41) rfl) rfl)).trans p2, p3, p4, fun k hk => (h4 k hk).trans (p5 k hk), ⟨fun s hs => ?_, p6.2⟩, p7.fx f (all_ne e (ρ := 1) rfl)⟩
  rw [h35]
  exact p6.1 s hs
theorem EM.ke (h : EM m v) (f : Fx (RS S) m m') (e : (S.all fun x => !(([23, 48] : List Nat).elem x)) = true) (h4 : ∀ k, k < 5 → m'.1 193 k = m.1 193 k) (h189 : ∀ s, s < nE v → m'.1 189 s = if iE v s = true then 1 else 0) : EM m' v := by
  obtain ⟨q1, q2, q3, q4, q5, q6, q7, q8, q9⟩ := h
  exact ⟨(f.at (nRS (all_ne e (ρ := 23) rfl) rfl)).trans q1, (f.at (nRS (all_ne e (ρ := 23) rfl) rfl)).trans q2, q3, q4, fun k hk => (h4 k hk).trans (q5 k hk), h189, (f.at (nRS (all_ne e (ρ := 48) rfl) rfl)).trans q7, q8, fun k hk => (f.at (nRS (all_ne e (ρ := 48) rfl) rfl)).trans (q9 k hk)⟩
end PYL
/-! THE SORT OF THE LAW, CHANGED AND GIVEN BACK -/
section LWG
variable {ad : Nat → Nat} {d : Nat} {m m0 : Wm} {g : GS} {v : EV} {H : List GS} {p : PLN}
theorem EM.l0 {y x : Int32} (h : EM m (setL v 0 y)) : EM (uI m 193 0 x) (setL v 0 x) := by
  obtain ⟨q1, q2, q3, q4, q5, q6, q7⟩ := h
  refine ⟨q1, q2, q3, q4, fun k hk => ?_, q6, q7⟩
  have e := q5 k hk
  show (uI m 193 0 x).1 193 k = upd (lE v) 0 x k
  have e' : m.1 193 k = upd (lE v) 0 y k := e
  rw [upd_at] at e' ⊢
  by_cases q : k = 0
  · rw [if_pos q, q, u_eq]
  · rw [if_neg q, u_ne (fun z => q z.2), e', if_neg q]
theorem EM.lz (h : EM m (setL v 0 (lE v 0))) : EM m v := by
  obtain ⟨q1, q2, q3, q4, q5, q6, q7⟩ := h
  refine ⟨q1, q2, q3, q4, fun k hk => ?_, q6, q7⟩
  have e' : m.1 193 k = upd (lE v) 0 (lE v 0) k := q5 k hk
  rw [e', upd_at]
  by_cases q : k = 0
  · rw [if_pos q, q]
  · rw [if_neg q]
theorem EM.la (h : EM m v) : EM m (setL v 0 (lE v 0)) := by
  obtain ⟨q1, q2, q3, q4, q5, q6, q7⟩ := h
  refine ⟨q1, q2, q3, q4, fun k hk => ?_, q6, q7⟩
  show m.1 193 k = upd (lE v) 0 (lE v 0) k
  rw [q5 k hk, upd_at]
  by_cases q : k = 0
  · rw [if_pos q, q]
  · rw [if_neg q]
end LWG
