/-! THE RULE: the class's reader, a sign a step -/
theorem rst_0 {c : Int32} {w : Bool} {dg : Nat} {fs : List Bool} (h : ¬ isDg c) : rst c (w, dg, fs) = rst c (w, 0, fs) := by
  unfold rst
  dsimp only
  rw [if_neg h, if_neg h]
theorem xst_0 {c : Int32} {w : Bool} {dg : Nat} {fs : List Bool} {cd wl : List Int32} (h : ¬ isDg c) : xst c ((w, dg, fs), cd, wl) = xst c ((w, 0, fs), cd, wl) := by
  unfold xst
  dsimp only
  rw [rst_0 h]
section RCT
variable {ad : Nat → Nat} {d b0 : Nat} {m m0 : Wm} {c : Int32} {w : Bool} {dg : Nat} {fs : List Bool} {cd wl : List Int32}
theorem e_isThing : Ct ad μX5_isThing d [.int c] m (fun r m' => m' = m ∧ r = some (.int (if isLt c then 1 else 0))) := by
  have z97 : (97 : Int32).toInt = 97 := rfl
  have z100 : (100 : Int32).toInt = 100 := rfl
  have g : ¬ (97 ≤ c ∧ c ≤ 100) → AW ad E0 μX5_isThing d (fun r m' => m' = m ∧ r = some (.int (if isLt c then 1 else 0))) 12 [(0, .int c)] [] m := fun h => by
    have yes : isLt c → m = m ∧ some (Value.int 1) = some (.int (if isLt c then 1 else 0)) := fun q => ⟨rfl, by rw [if_pos q]⟩
    refine g_X5_isThing_12 ⟨fun q => yes (Or.inr (Or.inl q)), fun n1 => ⟨fun q => yes (Or.inr (Or.inr (Or.inl q))), fun n2 => ⟨fun q => yes (Or.inr (Or.inr (Or.inr (Or.inl q)))), fun n3 => ⟨fun q => yes (Or.inr (Or.inr (Or.inr (Or.inr (Or.inl q))))), fun n4 => ⟨fun q => yes (Or.inr (Or.inr (Or.inr (Or.inr (Or.inr (Or.inl q)))))), fun n5 => ⟨fun n6 => ⟨rfl, ?_⟩, fun q => yes (Or.inr (Or.inr (Or.inr (Or.inr (Or.inr (Or.inr q))))))⟩⟩⟩⟩⟩⟩
    rw [if_neg]
    rintro (q | q | q | q | q | q | q)
    · exact h q
    · exact n1 q
    · exact n2 q
    · exact n3 q
    · exact n4 q
    · exact n5 q
    · exact n6 q
  refine v_X5_isThing ⟨fun q => g (fun z => ?_), fun n1 => ⟨fun q => ⟨rfl, ?_⟩, fun n2 => g (fun z => n2 z.2)⟩⟩
  · have h1 := z_lt q
    have h2 := z_le z.1
    omega
  · rw [if_pos (Or.inl ⟨(fa_le _ _).mpr (by have := z_nlt n1; omega), q⟩)]
theorem wR_n (hb : b0 = 5 ∨ b0 = 10) (wt : WT m) {k : Nat} {v : Int32} (hk : k = 7 ∨ k = 8) : WT (uI m b0 k v) := by
  rcases hb with rfl | rfl <;> rcases hk with rfl | rfl <;> exact wt.n rfl
theorem wR_6 (hb : b0 = 5 ∨ b0 = 10) (wt : WT m) {v : Int32} (h0 : 0 ≤ v.toInt) (h1 : v.toInt ≤ 4) : WT (uI m b0 6 v) := by rcases hb with rfl | rfl; exact wt.t rfl h0 h1; exact wt.t rfl h0 h1
theorem wRf (hb : b0 = 5 ∨ b0 = 10) (wt : WT m) {k : Nat} {v : Int32} : WT (uI m (b0 + 4) k v) := by rcases hb with rfl | rfl; exact wt.n rfl; exact wt.n rfl
theorem fR {m1 : Wm} (hb : b0 = 5 ∨ b0 = 10) (f : Fx (RB b0) m0 m1) {k : Nat} {v : Int32} (hk : 4 ≤ k ∧ k ≤ 8) : Fx (RB b0) m0 (uI m1 b0 k v) := f.i (Or.inl ⟨rfl, hk⟩)
theorem fRa {m1 : Wm} (hb : b0 = 5 ∨ b0 = 10) (f : Fx (RB b0) m0 m1) {j k : Nat} {v : Int32} (hj : j = 1 ∨ j = 3 ∨ j = 4) : Fx (RB b0) m0 (uI m1 (b0 + j) k v) := f.i (Or.inr (by omega))
theorem e_digit (hb : b0 = 5 ∨ b0 = 10) (wt : WT m) (f : Fx (RB b0) m0 m) (C : RX b0 ((w, dg, fs), cd, wl) m) (hl : cd.length + wl.length < 40) (hd : isDg c) : Ct ad μX5_takeDigit (d + 1) [.ref (ad b0), .int (c - 48)] m (fun r m' => ∃ v : Int32, r = some (.int v) ∧ bz v ∧ RXQ m0 b0 c ((w, dg, fs), cd, wl) (some (.int v)) m') := by
  obtain ⟨c8, c7, dg3, c4, X, D, h1, h2, h6, hfl⟩ := C
  refine v_X5_takeDigit (Ru_of hb) ⟨fun q => ?_, fun q => ?_⟩
  · have hw : w = false := by
      cases w with
      | false => rfl
      | true => rw [c8, if_pos rfl] at q; exact absurd q (by decide)
    subst hw
    obtain ⟨x1, x2, x3, x4⟩ := X
    cases cd with
    | nil => exact absurd rfl (c4 rfl)
    | cons y r =>
    rw [List.length_cons] at hl
    have ex : m.1 b0 4 - 1 = nI r.length := by rw [x1, List.length_cons]; exact (nI_sb (a := r.length + 1) (b := 1) (by omega) (by omega)).trans (congrArg nI (Nat.add_sub_cancel _ _))
    have hy := x2.h
    rw [ex, c7, nI_clamp (by omega), hy]
    have V : vp_in (nI r.length) 40 := nat_in (by omega) (by decide)
    refine ⟨fun z => ⟨0, rfl, bz_0, wt, f, Or.inr ⟨rfl, xst_none (rst_dn hd (Or.inl ((nI_eq (a := dg) (b := 0) (by omega) (by omega)).mp z)))⟩⟩, fun z => ⟨fun z3 => ⟨0, rfl, bz_0, wt, f, Or.inr ⟨rfl, xst_none (rst_dn hd (Or.inr ((nI_eq (a := dg) (b := 3) (by omega) (by omega)).mp z3)))⟩⟩, fun z3 => ⟨fun z4 => ⟨V, V, ?_⟩, fun z4 => ?_⟩⟩⟩
    · have n0 : ¬ dg = 0 := fun q => z (by rw [q]; rfl)
      have n3 : ¬ dg = 3 := fun q => z3 (by rw [q]; rfl)
      have e7 : (uI m (b0 + 1) r.length (y * 10 + (c - 48))).1 b0 7 = nI dg := (u_ne (by omega)).trans c7
      rw [e7, nI_1]
      refine ⟨1, rfl, bz_1, wR_n hb (wR1 hb wt) (Or.inl rfl), fR hb (fRa hb f (Or.inl rfl)) (by omega), Or.inl ⟨rfl, _, xs_ds hd (by omega), (u_ne (by omega)).trans ((u_ne (by omega)).trans c8), u_eq, by omega, fun _ => by simp, ⟨?_, ?_, ?_, ?_⟩, D, h1, h2, (u_ne (by omega)).trans ((u_ne (by omega)).trans h6), fun i hi => (u_ne (by omega)).trans ((u_ne (by omega)).trans (hfl i hi))⟩⟩
      · exact (u_ne (by omega)).trans ((u_ne (by omega)).trans x1)
      · exact (LCel.c (x := y * 10 + (c - 48)) x2.t).k (fun k => u_ne (by omega))
      · exact (u_ne (by omega)).trans ((u_ne (by omega)).trans x3)
      · exact x4.k (fun k => (u_ne (by omega)).trans (u_ne (by omega)))
    · rw [x1, List.length_cons] at z4
      have := (nI_eq (a := r.length + 1) (b := 0) (by omega) (by omega)).mp z4
      omega
  · have hw : w = true := by
      cases w with
      | true => rfl
      | false => exact absurd c8 q
    subst hw
    refine (e_emitK (m0 := m) hb wt Fx.rf X (by omega)).to ?_
    rintro _ m1 ⟨rfl, w1, f1, X1⟩
    have k : ∀ a j, ¬ RK b0 a j → m1.1 a j = m.1 a j := fun a j h => f1.at h
    refine ⟨rfl, 1, rfl, bz_1, wR_n hb (wR_n hb w1 (Or.inl rfl)) (Or.inr rfl), fR hb (fR hb (f.tr f1 RK_B) (by omega)) (by omega), Or.inl ⟨rfl, _, xs_d hd, u_eq, (u_ne (by omega)).trans u_eq, by omega, fun _ => by simp, X1.k (fun a k h => by unfold RK at h; exact (u_ne (by omega)).trans (u_ne (by omega))), D, h1, h2, (u_ne (by omega)).trans ((u_ne (by omega)).trans ((k b0 6 (by unfold RK; omega)).trans h6)), fun i hi => (u_ne (by omega)).trans ((u_ne (by omega)).trans ((k (b0 + 4) i (by unfold RK; omega)).trans (hfl i hi)))⟩⟩
end RCT
section RCU
variable {ad : Nat → Nat} {d b0 : Nat} {m m0 : Wm} {c : Int32} {w : Bool} {dg : Nat} {fs : List Bool} {cd wl : List Int32}
theorem e_thing (hb : b0 = 5 ∨ b0 = 10) (wt : WT m) (f : Fx (RB b0) m0 m) (C : RX b0 ((true, 0, fs), cd, wl) m) (hl : cd.length + wl.length < 40) (hd : ¬ isDg c) : Ct ad μX5_takeThing (d + 1) [.ref (ad b0), .int c] m (fun r m' => ∃ v : Int32, r = some (.int v) ∧ bz v ∧ RXQ m0 b0 c ((true, 0, fs), cd, wl) (some (.int v)) m') := by
  obtain ⟨c8, c7, dg3, c4, X, D, h1, h2, h6, hfl⟩ := C
  refine v_X5_takeThing (Ru_of hb) ⟨fun n45 => ⟨fun n40 => (e_isThing).to ?_, fun q40 => ?_⟩, fun q45 => ?_⟩
  · rintro _ m' ⟨eq, rfl⟩
    obtain rfl := eq.symm
    by_cases hl2 : isLt c
    · refine ⟨1, by rw [if_pos hl2], fun _ => (e_emitK (m0 := m) hb wt Fx.rf X (by omega)).to ?_, fun z => absurd z (by decide)⟩
      rintro _ m1 ⟨rfl, w1, f1, X1⟩
      exact ⟨rfl, 1, rfl, bz_1, wR_n hb w1 (Or.inr rfl), fR hb (f.tr f1 RK_B) (by omega), Or.inl ⟨rfl, _, xs_l hl2, u_eq, (u_ne (by omega)).trans ((f1.at (by unfold RK; omega)).trans c7), by omega, fun _ => by simp, X1.k (fun a k h => by unfold RK at h; exact u_ne (by omega)), D, h1, h2, (u_ne (by omega)).trans ((f1.at (by unfold RK; omega)).trans h6), fun i hi => (u_ne (by omega)).trans ((f1.at (by unfold RK; omega)).trans (hfl i hi))⟩⟩
    · exact ⟨0, by rw [if_neg hl2], fun z => absurd rfl z, fun _ => ⟨0, rfl, bz_0, wt, f, Or.inr ⟨rfl, xst_none (rst_wn hd n45 n40 hl2)⟩⟩⟩
  · subst q40
    have tD : (nI D).toInt = D := nI_toInt (by omega)
    have tD1 : (nI (D + 1)).toInt = (D : Int) + 1 := by rw [nI_toInt (by omega)]; omega
    rw [h6, nI_1]
    have e6 : (uI m b0 6 (nI (D + 1))).1 b0 6 = nI (D + 1) := u_eq
    rw [e6]
    refine ⟨fun q => ⟨?_, ?_⟩, fun q => ⟨0, rfl, bz_0, wt, f, Or.inr ⟨rfl, xst_none (rst_on ?_)⟩⟩⟩
    · have := y_ltr (n := 4) rfl q
      exact nat_in (by omega) (by decide)
    · have hD := y_ltr (n := 4) rfl q
      rw [nI_clamp (by omega)]
      have eb : vp_nar .boolean (0 : Int32) = 0 := rfl
      rw [eb]
      have wx : WT (uI (uI m b0 6 (nI (D + 1))) (b0 + 4) (D + 1) (0 : Int32)) := wRf hb (wR_6 hb wt (by omega) (by omega))
      have fx : Fx (RB b0) m0 (uI (uI m b0 6 (nI (D + 1))) (b0 + 4) (D + 1) (0 : Int32)) := fRa hb (fR hb f (by omega)) (Or.inr (Or.inr rfl))
      have Xx : XC b0 cd wl (uI (uI m b0 6 (nI (D + 1))) (b0 + 4) (D + 1) (0 : Int32)) := X.k (fun a k h => by unfold RK at h; exact (u_ne (by omega)).trans (u_ne (by omega)))
      refine (e_holdK (m0 := uI (uI m b0 6 (nI (D + 1))) (b0 + 4) (D + 1) (0 : Int32)) hb wx Fx.rf Xx (by omega)).to ?_
      rintro _ m1 ⟨rfl, w1, f1, X1⟩
      refine ⟨rfl, 1, rfl, bz_1, w1, fx.tr f1 RK_B, Or.inl ⟨rfl, _, xs_o (by omega), (f1.at (by unfold RK; omega)).trans ((u_ne (by omega)).trans ((u_ne (by omega)).trans c8)), (f1.at (by unfold RK; omega)).trans ((u_ne (by omega)).trans ((u_ne (by omega)).trans c7)), by omega, fun z => absurd z (by decide), X1, D + 1, by rw [List.length_cons, h1], by omega, (f1.at (by unfold RK; omega)).trans ((u_ne (by omega)).trans u_eq), fun i hi => ?_⟩⟩
      refine (f1.at (by unfold RK; omega)).trans ?_
      by_cases hi2 : i = D + 1
      · subst hi2
        rw [Nat.sub_self]
        exact u_eq
      · rw [u_ne (fun z => hi2 z.2), u_ne (by omega), hfl i (by omega), show D + 1 - i = (D - i) + 1 by omega]
        rfl
    · have := y_nltr (n := 4) rfl q
      omega
  · subst q45
    refine (e_holdK (m0 := m) hb wt Fx.rf X (by omega)).to ?_
    rintro _ m1 ⟨rfl, w1, f1, X1⟩
    exact ⟨rfl, 1, rfl, bz_1, w1, f.tr f1 RK_B, Or.inl ⟨rfl, _, xs_m, (f1.at (by unfold RK; omega)).trans c8, (f1.at (by unfold RK; omega)).trans c7, by omega, fun z => absurd z (by decide), X1, D, h1, h2, (f1.at (by unfold RK; omega)).trans h6, fun i hi => (f1.at (by unfold RK; omega)).trans (hfl i hi)⟩⟩
theorem fAt_0 {f : Bool} {r : List Bool} : fAt (f :: r) 0 = f := rfl
theorem fAt_s {f : Bool} {r : List Bool} {k : Nat} : fAt (f :: r) (k + 1) = fAt r k := rfl
theorem e_join (hb : b0 = 5 ∨ b0 = 10) (wt : WT m) (f : Fx (RB b0) m0 m) (C : RX b0 ((false, 0, fs), cd, wl) m) (hl : cd.length + wl.length < 40) (hd : ¬ isDg c) (hc : c.toInt ≤ 255) : Ct ad μX5_takeJoin (d + 2) [.ref (ad b0), .int c] m (fun r m' => ∃ v : Int32, r = some (.int v) ∧ bz v ∧ RXQ m0 b0 c ((false, 0, fs), cd, wl) (some (.int v)) m') := by
  obtain ⟨c8, c7, dg3, c4, X, D, h1, h2, h6, hfl⟩ := C
  have cn := c4 rfl
  have ls := relL_len (r := rkN c) wl cd
  have tD : (nI D).toInt = D := nI_toInt (by omega)
  -- after the flag: what is held by rank, then the sign
  have fin : ∀ (fs' : List Bool) (m1 : Wm), xst c ((false, 0, fs), cd, wl) = some ((true, 0, fs'), (relL (rkN c) wl cd).1, c :: (relL (rkN c) wl cd).2) → fs'.length = D + 1 → WT m1 → Fx (RB b0) m0 m1 → XC b0 cd wl m1 → m1.1 b0 7 = 0 → m1.1 b0 6 = nI D → (∀ i, i ≤ D → m1.1 (b0 + 4) i = if fAt fs' (D - i) = true then 1 else 0) → AW ad E0 μX5_takeJoin (d + 1 + 1) (fun r m' => ∃ v : Int32, r = some (.int v) ∧ bz v ∧ RXQ m0 b0 c ((false, 0, fs), cd, wl) (some (.int v)) m') 89 [(0, .ref (ad b0)), (1, .int c), (2, .int (nI (rkN c)))] [] m1 := by
    intro fs' m1 hs hl1 w1 f1 X1 k7 k6 kf
    refine g_X5_takeJoin_89 (Ru_of hb) ((e_relK (m0 := m1) hb w1 Fx.rf X1 (by omega) rk_4).to ?_)
    rintro _ m2 ⟨rfl, w2, f2, X2⟩
    refine ⟨rfl, (e_holdK (m0 := m1) hb w2 f2 X2 (by omega)).to ?_⟩
    rintro _ m3 ⟨rfl, w3, f3, X3⟩
    exact ⟨rfl, 1, rfl, bz_1, wR_n hb w3 (Or.inr rfl), fR hb (f1.tr f3 RK_B) (by omega), Or.inl ⟨rfl, _, hs, u_eq, (u_ne (by omega)).trans ((f3.at (by unfold RK; omega)).trans k7), by omega, fun z => absurd z (by decide), X3.k (fun a k h => by unfold RK at h; exact u_ne (by omega)), D, hl1, h2, (u_ne (by omega)).trans ((f3.at (by unfold RK; omega)).trans k6), fun i hi => (u_ne (by omega)).trans ((f3.at (by unfold RK; omega)).trans (kf i hi))⟩⟩
  refine v_X5_takeJoin (Ru_of hb) ⟨fun n41 => (e_rank).to ?_, fun q41 => ?_⟩
  · rintro _ m' ⟨eq, rfl⟩
    obtain rfl := eq.symm
    have rk : rkN c ≤ 4 := rk_4
    refine ⟨_, rfl, fun z => ?_, fun z => ⟨fun z1 => ?_, fun z1 => ?_⟩⟩
    · have e0 : rkN c = 0 := (nI_eq (a := rkN c) (b := 0) (by omega) (by omega)).mp z
      have nj : ¬ isJn c ∧ ¬ isCm c := by
        unfold rkN at e0
        by_cases a1 : c = 42 ∨ c = 47
        · rw [if_pos a1] at e0; omega
        · by_cases a2 : c = 43 ∨ c = 45
          · rw [if_neg a1, if_pos a2] at e0; omega
          · by_cases a3 : isCm c
            · rw [if_neg a1, if_neg a2, if_pos a3] at e0; omega
            · exact ⟨fun q => by rcases q with q | q | q | q; exact a1 (Or.inl q); exact a2 (Or.inl q); exact a2 (Or.inr q); exact a1 (Or.inr q), a3⟩
      exact ⟨0, rfl, bz_0, wt, f, Or.inr ⟨rfl, xst_none (rst_n hd n41 nj.2 nj.1)⟩⟩
    · have hj : isJn c := by
        by_cases a1 : c = 42 ∨ c = 47
        · rcases a1 with q | q
          · exact Or.inl q
          · exact Or.inr (Or.inr (Or.inr q))
        · by_cases a2 : c = 43 ∨ c = 45
          · rcases a2 with q | q
            · exact Or.inr (Or.inl q)
            · exact Or.inr (Or.inr (Or.inl q))
          · exfalso
            by_cases a3 : isCm c
            · have e : rkN c = 1 := by unfold rkN; rw [if_neg a1, if_neg a2, if_pos a3]
              exact z1 (by rw [e]; rfl)
            · have n4 : ¬ c = 256 := fun q => by rw [q] at hc; exact absurd hc (by decide)
              have e : rkN c = 0 := by unfold rkN; rw [if_neg a1, if_neg a2, if_neg a3, if_neg n4]
              exact z (by rw [e]; rfl)
      exact g_X5_takeJoin_74 (Ru_of hb) ⟨fun _ => fin fs m (xs_j hj) h1 wt f X c7 h6 hfl, fun q => absurd q z1⟩
    · have hcm : isCm c := by
        by_cases a1 : c = 42 ∨ c = 47
        · have e : rkN c = 3 := by unfold rkN; rw [if_pos a1]
          rw [e] at z1; exact absurd z1 (by decide)
        · by_cases a2 : c = 43 ∨ c = 45
          · have e : rkN c = 2 := by unfold rkN; rw [if_neg a1, if_pos a2]
            rw [e] at z1; exact absurd z1 (by decide)
          · by_cases a3 : isCm c
            · exact a3
            · have n4 : ¬ c = 256 := fun q => by rw [q] at hc; exact absurd hc (by decide)
              have e : rkN c = 0 := by unfold rkN; rw [if_neg a1, if_neg a2, if_neg a3, if_neg n4]
              exact absurd (by rw [e]; rfl) z
      obtain ⟨f0, r, rfl⟩ : ∃ f0 r, fs = f0 :: r := by
        cases fs with
        | nil => exact absurd h1 (by simp)
        | cons f0 r => exact ⟨f0, r, rfl⟩
      have hD := hfl D (Nat.le_refl _)
      rw [Nat.sub_self, fAt_0] at hD
      rw [h6, nI_clamp (by omega)]
      refine ⟨nat_in (by omega) (by decide), fun q => ?_, fun q => ?_⟩
      · have hf0 : f0 = false := by
          cases f0 with
          | false => rfl
          | true => rw [hD, if_pos rfl] at q; exact absurd q (by decide)
        subst hf0
        refine g_X5_takeJoin_74 (Ru_of hb) ⟨fun q2 => absurd z1 q2, fun _ => ?_⟩
        rw [h6, nI_clamp (by omega)]
        have eb : vp_nar .boolean (1 : Int32) = 1 := rfl
        rw [eb]
        refine ⟨nat_in (by omega) (by decide), fin (true :: r) _ (xs_c hcm) (by rw [List.length_cons] at h1 ⊢; exact h1) (wRf hb wt) (fRa hb f (Or.inr (Or.inr rfl))) (X.k (fun a k h => by unfold RK at h; exact u_ne (by omega))) ((u_ne (by omega)).trans c7) ((u_ne (by omega)).trans h6) (fun i hi => ?_)⟩
        by_cases hi2 : i = D
        · subst hi2
          rw [Nat.sub_self]
          exact u_eq
        · rw [u_ne (fun z => hi2 z.2), hfl i hi, show D - i = (D - i - 1) + 1 by omega]
          rfl
      · have hf0 : f0 = true := by
          cases f0 with
          | true => rfl
          | false => exact absurd hD q
        subst hf0
        exact ⟨0, rfl, bz_0, wt, f, Or.inr ⟨rfl, xst_none (rst_cn hcm)⟩⟩
  · subst q41
    refine ⟨fun q => (e_relK (m0 := m) (r := 1) hb wt Fx.rf X (by omega) (by decide)).to ?_, fun q => ?_⟩
    · have hD0 : D ≠ 0 := fun z => q (by rw [h6, z]; rfl)
      obtain ⟨f0, g, r, rfl⟩ : ∃ f0 g r, fs = f0 :: g :: r := by
        cases fs with
        | nil => exact absurd h1 (by simp)
        | cons f0 r =>
          cases r with
          | nil => rw [List.length_cons, List.length_nil] at h1; omega
          | cons g r => exact ⟨f0, g, r, rfl⟩
      rintro _ m1 ⟨rfl, w1, f1, X1⟩
      have n1 := relL_ne (r := 1) wl cd cn
      have l1 := relL_len (r := 1) wl cd
      have hp5 : (if (0 : Int32) < m1.1 b0 5 - 1 then m1.1 b0 5 - 1 else (0 : Int32)) = nI (relL 1 wl cd).2.tail.length ∧ LCel m1 (b0 + 3) (relL 1 wl cd).2.tail := by
        obtain ⟨-, -, x3, x4⟩ := X1
        rw [x3]
        generalize (relL 1 wl cd).2 = l at x3 x4 l1
        cases l with
        | nil => exact ⟨by decide, fun i hi => absurd hi (Nat.not_lt_zero i)⟩
        | cons x l =>
          rw [List.length_cons] at l1
          refine ⟨?_, x4.t⟩
          have ex : nI (x :: l).length - 1 = nI l.length := by rw [List.length_cons]; exact (nI_sb (a := l.length + 1) (b := 1) (by omega) (by omega)).trans (congrArg nI (Nat.add_sub_cancel _ _))
          rw [ex]
          show (if (0 : Int32) < nI l.length then nI l.length else 0) = nI l.length
          by_cases h0 : l.length = 0
          · rw [h0]; decide
          · rw [if_pos ((fa_lt _ _).mpr (by rw [nI_toInt (by omega)]; have z : (0 : Int32).toInt = 0 := rfl; omega))]
      have t5 := cnt5 hb w1
      have z1 : (1 : Int32).toInt = 1 := rfl
      have z0 : (0 : Int32).toInt = 0 := rfl
      have ts : (m1.1 b0 5 - 1).toInt = (m1.1 b0 5).toInt - 1 := by
        have := ti_sub (x := m1.1 b0 5) (y := (1 : Int32)) (by omega)
        omega
      have hv : 0 ≤ (if (0 : Int32) < m1.1 b0 5 - 1 then m1.1 b0 5 - 1 else (0 : Int32)).toInt ∧ (if (0 : Int32) < m1.1 b0 5 - 1 then m1.1 b0 5 - 1 else (0 : Int32)).toInt ≤ 40 := by
        by_cases hp : (0 : Int32) < m1.1 b0 5 - 1
        · rw [if_pos hp]
          have := z_lt hp
          omega
        · rw [if_neg hp]
          omega
      generalize (if (0 : Int32) < m1.1 b0 5 - 1 then m1.1 b0 5 - 1 else (0 : Int32)) = x at hv hp5 ⊢
      have e6 : (uI m1 b0 5 x).1 b0 6 = nI D := (u_ne (by omega)).trans ((f1.at (by unfold RK; omega)).trans h6)
      have e6' : nI D - 1 = nI (D - 1) := nI_sb (b := 1) (by omega) (by omega)
      rw [e6, e6']
      have tD' : (nI (D - 1)).toInt = ((D - 1 : Nat) : Int) := nI_toInt (by omega)
      refine ⟨rfl, 1, rfl, bz_1, wR_6 hb (wR_5 hb w1 hv.1 hv.2) (by omega) (by omega), fR hb (fR hb (f.tr f1 RK_B) (by omega)) (by omega), Or.inl ⟨rfl, _, xs_p, (u_ne (by omega)).trans ((u_ne (by omega)).trans ((f1.at (by unfold RK; omega)).trans c8)), (u_ne (by omega)).trans ((u_ne (by omega)).trans ((f1.at (by unfold RK; omega)).trans c7)), by omega, fun _ => n1, ⟨(u_ne (by omega)).trans ((u_ne (by omega)).trans X1.1), X1.2.1.k (fun k => (u_ne (by omega)).trans (u_ne (by omega))), (u_ne (by omega)).trans (u_eq.trans hp5.1), hp5.2.k (fun k => (u_ne (by omega)).trans (u_ne (by omega)))⟩, D - 1, by simp only [List.length_cons] at h1 ⊢; omega, by omega, u_eq, fun i hi => ?_⟩⟩
      refine (u_ne (by omega)).trans ((u_ne (by omega)).trans ((f1.at (by unfold RK; omega)).trans ((hfl i (by omega)).trans ?_)))
      rw [show D - i = (D - 1 - i) + 1 by omega]
      rfl
    · have hD0 : D = 0 := (nI_eq (a := D) (b := 0) (by omega) (by omega)).mp (h6.symm.trans q)
      obtain ⟨f0, rfl⟩ : ∃ f0, fs = [f0] := by
        cases fs with
        | nil => exact absurd h1 (by simp)
        | cons f0 r =>
          cases r with
          | nil => exact ⟨f0, rfl⟩
          | cons g r => rw [List.length_cons, List.length_cons] at h1; omega
      exact ⟨0, rfl, bz_0, wt, f, Or.inr ⟨rfl, xst_none rst_p1⟩⟩
end RCU
