section RDN
variable {ad : Nat → Nat} {d : Nat} {m m0 : Wm} {v : EV} {p : PLN} {g : GS} {H : List GS}
set_option maxHeartbeats 1000000 in
theorem rdsM (hp : PlnOK v p) {lk sv : Bool} {x3 x4 : Int32} (h3 : x3 = 0 ↔ sv = false) (h4 : x4 = 0 ↔ lk = false) {n fr : Nat} (hn : n ≤ 200) (hfr : fr < 12) {Q : Option Value → Wm → Prop} (T : RSt)
    (hE : EM m0 v) (hP : PlnM m0 p) (K : ∀ m1, WT m1 → Fx (RS [22, 24, 28, 29, 31, 49]) m0 m1 → RdM (nE v) m1 T → Q none m1) :
    ∀ (k i : Nat) (S : RSt) (m : Wm), i + k = n → WT m → Fx (RS [22, 24, 28, 29, 31, 49]) m0 m → RdM (nE v) m S → T = rdsR lk sv v p k ((fr + i) % rdP p) S →
      AW ad E0 μX12_goRounds (d + 171) Q 13 [(0, .ref (ad 187)), (1, .int (nI n)), (2, .int (nI fr)), (3, .int x3), (4, .int x4), (5, .int (nI i))] [] m := by
  intro k
  have hp1 := hp.1
  have hp2 := hp.2.1
  induction k with
  | zero =>
    intro i S m hi w f R hT
    refine g_X12_goRounds_13 (d := d + 170) ⟨fun _ => K m w f ?_, fun c => absurd ((nI_leI (by omega) (by omega)).mpr (by omega)) c⟩
    rw [hT]
    exact R
  | succ k ih =>
    intro i S m hi w f R hT
    have P1 := hP.fx f rfl rfl
    have hl := Nat.mod_lt (fr + i) (show 0 < rdP p by omega)
    refine g_X12_goRounds_13 (d := d + 170) ⟨fun c => absurd ((nI_leI (by omega) (by omega)).mp c) (by omega), fun _ => ?_⟩
    rw [P1.1, nI_add, nI_rem (by omega) (by omega) (by omega)]
    refine ⟨fun z => ?_, ?_⟩
    · have := (nI_eq (a := rdP p) (b := 0) (by omega) (by omega)).mp z
      omega
    · have hT2 : T = rdsR lk sv v p k (nxP p ((fr + i) % rdP p)) (runR lk sv v p (enP p ((fr + i) % rdP p) - snP p ((fr + i) % rdP p)) (snP p ((fr + i) % rdP p)) S) := hT
      rw [← nxP_mod hp rfl] at hT2
      have hg := hp.2.2.1
      refine roundM (d := d) hp h3 h4 hl (runR lk sv v p (enP p ((fr + i) % rdP p) - snP p ((fr + i) % rdP p)) (snP p ((fr + i) % rdP p)) S) (fun m1 w1 f1 R1 => ?_) hE hP (gmP p) 0 S m (by omega) w f R ?_
      · rw [nI_1]
        exact ih (i + 1) _ m1 (by omega) w1 f1 R1 hT2
      · by_cases z : 0 < snP p ((fr + i) % rdP p)
        · rw [if_pos z]
        · rw [if_neg z, show snP p ((fr + i) % rdP p) = 0 by omega]
/-- n rounds from fr on -/
theorem goRoundsM (hp : PlnOK v p) {lk sv : Bool} {x3 x4 : Int32} (h3 : x3 = 0 ↔ sv = false) (h4 : x4 = 0 ↔ lk = false) {n fr : Nat} (hn : n ≤ 200) (hfr : fr < rdP p) (w : WT m) (h : HM (nE v) m g) (U : UnM (nE v) m H) (hl : H.length ≤ 20) (hE : EM m v) (hP : PlnM m p) :
    Ct ad μX12_goRounds (d + 171) [.ref (ad 187), .int (nI n), .int (nI fr), .int x3, .int x4] m (fun r m' => r = none ∧ WT m' ∧ Fx (RS [22, 24, 28, 29, 31, 49]) m m' ∧ RdM (nE v) m' (rdsR lk sv v p n fr (g, H, 0, 0))) := by
  have hp2 := hp.2.1
  have w0 : WT (uI (uI m 187 32 (0 : Int32)) 187 33 (0 : Int32)) := (w.n rfl).n rfl
  have f0 : Fx (RS [22, 24, 28, 29, 31, 49]) m (uI (uI m 187 32 (0 : Int32)) 187 33 (0 : Int32)) := Fx.i (Fx.i Fx.rf rfl) rfl
  refine v_X12_goRounds (d := d + 170) ?_
  refine rdsM (d := d) (m0 := m) hp h3 h4 hn (by omega) (rdsR lk sv v p n fr (g, H, 0, 0)) hE hP (fun m1 w1 f1 R1 => ⟨rfl, w1, f1, R1⟩) n 0 (g, H, 0, 0) _ (by omega) w0 f0 ⟨h, ⟨U.1, fun j hj => (U.2 j hj).k (fun k _ _ => rfl)⟩, hl, rfl, rfl⟩ ?_
  rw [Nat.add_zero, Nat.mod_eq_of_lt hfr]
/-! the class -/
def RdC (m : Wm) (S : RSt) : Prop := HC 21 m S.1 ∧ UnC m S.2.1
theorem playNowC (w : WT m) (h : HC 21 m g) (U : UnC m H) (hE : EC m v) {a e : Nat} (ha : a < 8) (he : e < 8) (hae : a ≠ e) {th : Int32} (ht : th = 0 ∨ th = 1 ∨ th = 2 ∨ th = 3) :
    Ct ad μX11_playNow (d + 6) [.ref (ad 0), .int (nI a), .int (nI e), .int th] m (fun r m' => WT m' ∧ Fx (RS [2, 4, 6, 14, 53]) m m' ∧ r = some (.int (wonG true v a e th g)) ∧ HC 21 m' (goG true v a e th g) ∧ UnC m' ((g :: H).take 20)) := by
  have e44 : (4 : Int32).toNatClampNeg = 4 := rfl
  refine v_X11_playNow (d := d + 5) ((saveC (d := d + 3) w h U).to ?_)
  rintro _ m1 ⟨rfl, w1, f1, U1⟩
  have H1 := h.fx SS_21 f1 rfl
  have E1 := hE.fx f1 rfl
  have go : ∀ s0 : Int32, (s0 = 0 ↔ ¬ byG true v th) → AW ad E0 μX11_playNow (d + 6) (fun r m' => WT m' ∧ Fx (RS [2, 4, 6, 14, 53]) m m' ∧ r = some (.int (wonG true v a e th g)) ∧ HC 21 m' (goG true v a e th g) ∧ UnC m' ((g :: H).take 20)) 32 [(0, .ref (ad 0)), (1, .int (nI a)), (2, .int (nI e)), (3, .int th)] [.int s0] m1 := fun s0 hs => by
    refine AW.mono (playNow32 (d := d) w1 H1 E1 ha he hae ht hs) ?_
    rintro r m2 ⟨w2, f2, rfl, H2⟩
    exact ⟨w2, (Fx.tr (S := RS [2, 4, 6, 14, 53]) Fx.rf f1 (RS_sub rfl)).tr f2 (RS_sub rfl), rfl, H2, U1.fx f2 rfl rfl⟩
  rw [e44]
  have l4 := E1.2.2.2.2.1 4 (by decide)
  rw [l4]
  refine ⟨rfl, fun c => go 0 ⟨fun _ z => z.2.1 c, fun _ => rfl⟩, fun c => ⟨fun n0 => go 0 ⟨fun _ z => n0 z.2.2, fun _ => rfl⟩, fun q0 => go 1 ⟨fun z => absurd z (by decide), fun z => absurd ⟨rfl, c, q0⟩ z⟩⟩⟩
theorem PlnC.fx {S : List Nat} {m' : Wm} (h : PlnC m p) (f : Fx (RS S) m m') (e7 : S.elem 7 = false) (e54 : S.elem 54 = false) : PlnC m' p := by
  obtain ⟨P, Q, hR, h1, h2, h3, h4⟩ := h
  have hPQ := hR.2.2
  have r : ∀ b k, 133 < b → b < 146 → m'.1 b k = m.1 b k := fun b k a1 a2 => f.at (n7 e7 k a1 a2)
  exact ⟨P, Q, hR.fx f e54, (r P 5 (by omega) (by omega)).trans h1, (r P 6 (by omega) (by omega)).trans h2, fun j hj => ⟨(r _ j (by omega) (by omega)).trans (h3 j hj).1, (r _ j (by omega) (by omega)).trans (h3 j hj).2.1, (r _ j (by omega) (by omega)).trans (h3 j hj).2.2⟩, fun ρ hρ => (r _ ρ (by omega) (by omega)).trans (h4 ρ hρ)⟩
theorem PRF.pl {P Q : Nat} (h : PRF m P Q) : m.2.2 0 9 = some P ∧ Pl P ∧ (P = 134 ∨ P = 140) := by
  have := h.2.2
  have hP : P = 134 ∨ P = 140 := by omega
  exact ⟨h.1, Pl_of hP, hP⟩
/-- begin(): where round x begins, behind the last one of all games -/
theorem beginC {P : Nat} (hPl : Pl P) (h1 : m.1 P 5 = nI (rdP p)) (h2 : m.1 P 6 = nI (gmP p)) (h4 : ∀ ρ, ρ < rdP p → m.1 (P + 4) ρ = nI (snP p ρ)) (hr : rdP p ≤ 12) {x : Nat} (hx : x ≤ 12) : Ct ad μX3_begin d [.ref (ad P), .int (nI x)] m (fun r m' => m' = m ∧ r = some (.int (nI (if x < rdP p then snP p x else gmP p)))) := by
  refine v_X3_begin hPl ⟨fun c => absurd ((l_lt 0 0 rfl (by decide) (by omega)).mp c) (by omega), fun _ => ?_⟩
  rw [h1, h2, nI_clamp (by omega)]
  refine ⟨fun c => ⟨rfl, ?_⟩, fun c => ⟨nat_in (by omega) (by decide), rfl, ?_⟩⟩
  · have := (nI_leI (a := rdP p) (b := x) (by omega) (by omega)).mp c
    rw [if_neg (by omega)]
  · have hx2 : x < rdP p := Nat.lt_of_not_le (fun z => c ((nI_leI (a := rdP p) (b := x) (by omega) (by omega)).mpr z))
    rw [if_pos hx2, h4 x hx2]
theorem afterC {P : Nat} (hPl : Pl P) (h1 : m.1 P 5 = nI (rdP p)) (hr : rdP p ≤ 12) {x : Nat} (hx : x ≤ 12) : Ct ad μX3_after d [.ref (ad P), .int (nI x)] m (fun r m' => m' = m ∧ r = some (.int (nI (nxP p x)))) := by
  refine v_X3_after hPl ?_
  rw [h1, nI_1]
  unfold nxP
  refine ⟨fun c => ⟨rfl, ?_⟩, fun c => ⟨rfl, ?_⟩⟩
  · have := (nI_leI (a := rdP p) (b := x + 1) (by omega) (by omega)).mp c
    rw [if_neg (by omega)]
    rfl
  · have hx2 : x + 1 < rdP p := Nat.lt_of_not_le (fun z => c ((nI_leI (a := rdP p) (b := x + 1) (by omega) (by omega)).mpr z))
    rw [if_pos hx2]
def rcQ (m : Wm) (T : RSt) (fr : Nat) (m' : Wm) : Prop := WT m' ∧ Fx (RS [2, 4, 6, 14, 44, 53]) m m' ∧ RdC m' T ∧ m'.1 0 11 = nI fr
set_option maxHeartbeats 2000000 in
/-- a round of the class, from game j on -/
theorem roundC (hp : PlnOK v p) {x1 x4 : Int32} {ρ : Nat} (hρ : ρ < rdP p) {Q : Option Value → Wm → Prop} (T : RSt) (hE : EC m0 v) (hP : PlnC m0 p)
    (K : ∀ m1, rcQ m0 T (nxP p ρ) m1 → AW ad E0 μX11_rounds (d + 7) Q 30 [(0, .ref (ad 0)), (1, .int x1), (2, .int (nI T.2.2.2)), (3, .int (nI T.2.2.1)), (4, .int (x4 + (1 : Int32)))] [] m1) :
    ∀ (n j : Nat) (S : RSt) (m : Wm), j + n = enP p ρ → rcQ m0 S ρ m → T = runR true true v p n j S →
      AW ad E0 μX11_rounds (d + 7) Q 64 [(0, .ref (ad 0)), (1, .int x1), (2, .int (nI S.2.2.2)), (3, .int (nI S.2.2.1)), (4, .int x4), (5, .int (nI (enP p ρ))), (6, .int (nI j))] [] m := by
  intro n
  have hen := hp.en hρ
  obtain ⟨a1, a2, a3, a4, a5⟩ := hp
  induction n with
  | zero =>
    intro j S m hj R hT
    obtain ⟨w, f, ⟨R1, R2⟩, k11⟩ := R
    obtain ⟨P, Q', hR, p1, p2, p3, p4⟩ := hP.fx f rfl rfl
    obtain ⟨q1, q2, q3⟩ := hR.pl
    refine g_X11_rounds_64 (d := d + 6) ⟨fun _ => ⟨P, q1, q2, ?_⟩, fun c => absurd ((nI_leI (by omega) (by omega)).mpr (by omega)) c⟩
    rw [k11]
    refine (afterC (d := d + 6) (p := p) q2 p1 a2 (by omega)).to ?_
    rintro _ m2 ⟨eq, rfl⟩
    obtain rfl := eq.symm
    have hT' : T = S := hT
    rw [← hT']
    refine ⟨_, rfl, K _ ⟨w.n rfl, f.i rfl, ⟨?_, ?_⟩, u_eq⟩⟩
    · rw [hT']; exact R1.o (by omega)
    · rw [hT']; exact R2.fx (S := [44]) ((Fx.rf (m := m)).i rfl) rfl rfl
  | succ n ih =>
    intro j S m hj R hT
    obtain ⟨w, f, ⟨R1, R2⟩, k11⟩ := R
    obtain ⟨P, Q', hR, p1, p2, p3, p4⟩ := hP.fx f rfl rfl
    obtain ⟨q1, q2, q3⟩ := hR.pl
    obtain ⟨b1, b2, b3⟩ := p3 j (by omega)
    obtain ⟨c1, c2, c3, c4⟩ := a5 j (by omega)
    have E1 := hE.fx f rfl
    have n8 := E1.2.2.1
    refine g_X11_rounds_64 (d := d + 6) ⟨fun c => absurd ((nI_leI (by omega) (by omega)).mp c) (by omega), fun _ => ?_⟩
    refine ⟨P, q1, q2, nat_in (by omega) (by decide), P, q1, q2, nat_in (by omega) (by decide), P, q1, q2, nat_in (by omega) (by decide), ?_⟩
    rw [nI_clamp (by omega), b1, b2, b3]
    refine (playNowC (d := d) w R1 R2 E1 (by omega) (by omega) c3 c4).to ?_
    rintro _ m2 ⟨w2, f2, rfl, H2, U2⟩
    have f2' : Fx (RS [2, 4, 6, 14, 44, 53]) m0 m2 := f.tr f2 (RS_sub rfl)
    have k2 : m2.1 0 11 = nI ρ := (f2.at (nRS (ρ := 44) rfl rfl)).trans k11
    have go := ih (j + 1) (stepR true true v p j S) m2 (by omega) ⟨w2, f2', ⟨H2, U2⟩, k2⟩ hT
    refine ⟨_, rfl, fun q => ?_, fun q => ?_⟩
    · rw [nI_1, nI_1]
      have e : (stepR true true v p j S).2.2.1 = S.2.2.1 := if_neg q
      rw [e] at go
      exact go
    · rw [nI_1, nI_1, nI_1]
      have e : (stepR true true v p j S).2.2.1 = S.2.2.1 + 1 := if_pos q
      rw [e] at go
      exact go
def nxI (p : PLN) : Nat → Nat → Nat
  | 0, ρ => ρ
  | k + 1, ρ => nxI p k (nxP p ρ)
theorem nxI_m (hp : PlnOK v p) : ∀ (k x : Nat), nxI p k (x % rdP p) = (x + k) % rdP p := by
  intro k
  induction k with
  | zero => intro x; rfl
  | succ k ih =>
    intro x
    show nxI p k (nxP p (x % rdP p)) = _
    rw [← nxP_mod hp rfl, ih (x + 1), show x + 1 + k = x + (k + 1) by omega]
def rcF (m : Wm) (T : RSt) (fr : Nat) (r : Option Value) (m' : Wm) : Prop := r = some (.int (nI T.2.2.2)) ∧ WT m' ∧ Fx (RS [2, 4, 6, 9, 14, 44, 53]) m m' ∧ RdC m' T ∧ m'.1 0 11 = nI fr
set_option maxHeartbeats 1000000 in
theorem rdsC (hp : PlnOK v p) {n : Nat} (hn : n ≤ 200) (T : RSt) (fr' : Nat) (hE : EC m0 v) (hP : PlnC m0 p) :
    ∀ (k i ρ : Nat) (S : RSt) (m : Wm), i + k = n → ρ < rdP p → rcQ m0 S ρ m → T = rdsR true true v p k ρ S → fr' = nxI p k ρ →
      AW ad E0 μX11_rounds (d + 7) (rcF m0 T fr') 30 [(0, .ref (ad 0)), (1, .int (nI n)), (2, .int (nI S.2.2.2)), (3, .int (nI S.2.2.1)), (4, .int (nI i))] [] m := by
  intro k
  have hp2 := hp.2.1
  induction k with
  | zero =>
    intro i ρ S m hi hρ R hT hf
    have hT' : T = S := hT
    refine g_X11_rounds_30 (d := d + 6) ⟨fun _ => ?_, fun c => absurd ((nI_leI (by omega) (by omega)).mpr (by omega)) c⟩
    obtain ⟨w, f, ⟨R1, R2⟩, k11⟩ := R
    refine (s_X1_total (d := d + 4) w SS_21).to ?_
    rintro _ m1 ⟨w1, f1, v1, rfl⟩
    refine ⟨v1, rfl, (s_X11_tell_ w1).to ?_⟩
    rintro _ m2 ⟨w2, f2, rfl⟩
    refine ⟨rfl, ?_⟩
    rw [← hT'] at R1 R2 ⊢
    refine ⟨rfl, w2, ((Fx.tr (S := RS [2, 4, 6, 9, 14, 44, 53]) Fx.rf f (RS_sub rfl)).tr f1 (RS_sub rfl)).tr f2 (RS_sub rfl), ⟨(R1.fx SS_21 f1 rfl).fx SS_21 f2 rfl, (R2.fx f1 rfl rfl).fx f2 rfl rfl⟩, ?_⟩
    exact (f2.at (nRS (ρ := 44) rfl rfl)).trans ((f1.at (nRS (ρ := 44) rfl rfl)).trans (k11.trans (congrArg nI hf.symm)))
  | succ k ih =>
    intro i ρ S m hi hρ R hT hf
    have R0 := R
    obtain ⟨w, f, ⟨R1, R2⟩, k11⟩ := R
    obtain ⟨P, Q', hR, p1, p2, p3, p4⟩ := hP.fx f rfl rfl
    obtain ⟨q1, q2, q3⟩ := hR.pl
    have hen := hp.en hρ
    refine g_X11_rounds_30 (d := d + 6) ⟨fun c => absurd ((nI_leI (by omega) (by omega)).mp c) (by omega), fun _ => ⟨P, q1, q2, ?_⟩⟩
    rw [k11, nI_1]
    refine (beginC (d := d + 6) (p := p) q2 p1 p2 p4 hp2 (by omega)).to ?_
    rintro _ m2 ⟨eq, rfl⟩
    obtain rfl := eq.symm
    refine ⟨_, rfl, P, q1, q2, ?_⟩
    rw [k11]
    refine (beginC (d := d + 6) (p := p) q2 p1 p2 p4 hp2 (by omega)).to ?_
    rintro _ m2 ⟨eq, rfl⟩
    obtain rfl := eq.symm
    refine ⟨_, rfl, ?_⟩
    rw [if_pos hρ]
    have T1 := roundC (d := d) (x1 := nI n) (x4 := nI i) hp hρ (runR true true v p (enP p ρ - snP p ρ) (snP p ρ) S) hE hP (Q := rcF m0 T fr') (fun m1 R1 => by
      rw [nI_1]
      exact ih (i + 1) (nxP p ρ) _ m1 (by omega) (nxP_lt hp) R1 hT hf) (enP p ρ - snP p ρ) (snP p ρ) S m (by omega) R0 rfl
    exact T1
end RDN
