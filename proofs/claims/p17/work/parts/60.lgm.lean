/-! THE LEAGUE IS READ BY THE MODEL AS SIGN BY SIGN -/
theorem sub_add48 (c : Int32) : c - 48 + 48 = c := Int32.sub_add_cancel c 48
theorem dgi {c lo hi : Int32} {l u : Nat} (hl : lo = nI l) (hu : hi = nI u) (hl9 : l ≤ 9) (hu9 : u ≤ 9) : (48 + lo ≤ c ∧ c ≤ 48 + hi) ↔ ((l : Int) ≤ (c - 48).toInt ∧ (c - 48).toInt ≤ u) := by
  refine ⟨fun h => dig_v hl hu hl9 hu9 h.1 h.2, fun h => ?_⟩
  subst hl hu
  have z48 : (48 : Int32).toInt = 48 := rfl
  have e1 : (nI l).toInt = l := nI_toInt (by omega)
  have e2 : (nI u).toInt = u := nI_toInt (by omega)
  have b1 := ti_add (x := 48) (y := nI l) (by omega)
  have b2 := ti_add (x := 48) (y := nI u) (by omega)
  have b3 := ti_add (x := c - 48) (y := 48) (by omega)
  rw [sub_add48] at b3
  exact ⟨(fa_le _ _).mpr (by omega), (fa_le _ _).mpr (by omega)⟩
section LHL
variable {ad : Nat → Nat} {d : Nat} {m : Wm} {O : Nat ⊕ LgSt} {ty e : Nat} {tx : Nat → Int32}
theorem hr_in {p : Nat} (h : p < e) : hrF tx e p = tx p := if_pos h
theorem hr_out {p : Nat} (h : ¬ p < e) : hrF tx e p = -1 := if_neg h
theorem pass_iff {c : Int32} {p : Nat} (hc : c ≠ -1) : passF tx e c (p, -1) = true ↔ (p < e ∧ tx p = c) := by
  constructor
  · intro h
    have h1 := pass_lt h hc
    exact ⟨h1, (hr_in h1).symm.trans (of_decide_eq_true h).2⟩
  · intro h
    exact decide_eq_true ⟨rfl, (hr_in h.1).trans h.2⟩
theorem ep_s {p : Nat} (h : p < e) : e - p = (e - (p + 1)) + 1 := by omega
theorem lh_loop (A : PA 195 80 ty 76 e) {n a0 : Nat} (hn : m.1 187 1 = nI n) (ha0 : m.1 187 0 = nI a0) : ∀ (k dg ln sd ar fr p : Nat) (wp : Bool) (il : Nat → Bool) (sk : Nat → Int32) (x4 : Int32) (m3 : Wm), e - p < k → PS 195 ty 76 e tx p (-1) m3 →
    LO tx (decide (76 < ty)) (e - p) p (0, dg, ln, sd, ar, fr, wp, il, sk) = O → lhV n a0 sd ar fr wp → (x4 = if wp = true then 1 else 0) → lgI m m3 → lhN fr sd il sk m3 → Fx (RS [20, 21, 22, 27]) m m3 →
    AW ad E0 μX12_league (d + 4 + 1) (lhQ m O) 57 [(0, .ref (ad 187)), (1, .int (nI ar)), (2, .int (nI fr)), (3, .int (nI sd)), (4, .int x4), (5, .int (nI ln)), (6, .int 1)] [] m3 := by
  intro k
  induction k with
  | zero => intros; omega
  | succ k ih =>
    intro dg ln sd ar fr p wp il sk x4 m3 hk h hO V hx I N F
    have e80 : e ≤ 80 := by have := A.2.2.2.1; have := A.2.2.2.2.1; omega
    have hpe : p ≤ e := h.2.2.2.2.2.1
    -- behind a line
    have nx : ∀ (st dg ln sd ar fr p' : Nat) (wp : Bool) (il : Nat → Bool) (sk : Nat → Int32) (x4 : Int32) (m4 : Wm), p ≤ p' → PS 195 ty 76 e tx p' (-1) m4 → LO tx (decide (76 < ty)) (e - p') p' (st, dg, ln, sd, ar, fr, wp, il, sk) = O → lEnd st dg ar → (st = 2 → p' < e → tx p' ≠ 33) →
        lhV n a0 sd ar fr wp → (wp = true ∨ fr < sd) → (x4 = if wp = true then 1 else 0) → lgI m m4 → lhN fr sd il sk m4 → Fx (RS [20, 21, 22, 27]) m m4 →
        Ct ad μX12_passes (d + 4) [.ref (ad 187), .int 59] m4 (fun r m10 => ∃ v11 : Int32, r = some (.int v11) ∧ AW ad E0 μX12_league (d + 4 + 1) (lhQ m O) 57 [(0, .ref (ad 187)), (1, .int (nI ar)), (2, .int (nI fr)), (3, .int (nI sd)), (4, .int x4), (5, .int (nI ln)), (6, .int v11)] [] m10) := by
      intro st dg ln sd ar fr p' wp il sk x4 m4 hp h4 hO4 hE h33 V4 hl hx4 I4 N4 F4
      refine (passes_ok A h4 (by decide)).to ?_
      rintro _ m5 ⟨rfl, h5, f5⟩
      have I5 := I4.fx f5
      have F5 : Fx (RS [20, 21, 22, 27]) m m5 := F4.tr f5 (RS_sub rfl)
      have N5 : lhN fr sd il sk m5 := N4.at (funext fun k => f5.at (by show ¬ (([22] : List Nat).elem 27 = true); decide)) (funext fun k => f5.at (by show ¬ (([22] : List Nat).elem 27 = true); decide))
      by_cases h59 : passF tx e 59 (p', -1) = true
      · rw [if_pos h59] at h5 ⊢
        obtain ⟨q1, q2⟩ := (pass_iff (by decide)).mp h59
        rw [ep_s q1, LO_s (by rw [q2]; exact lst_c hE)] at hO4
        exact ⟨1, rfl, ih dg ln sd ar fr (p' + 1) wp il sk x4 m5 (by omega) h5 hO4 V4 hx4 I5 N5 F5⟩
      · rw [if_neg h59] at h5 ⊢
        have q1 : p' < e → tx p' ≠ 59 := fun q z => h59 ((pass_iff (by decide)).mpr ⟨q, z⟩)
        exact ⟨0, rfl, g_X12_league_57 ⟨fun _ => lh_end (d := d + 3) A h5 hO4 hE q1 h33 V4 hl hx4 I5 N5 F5 hn ha0, fun c => absurd rfl c⟩⟩
    refine g_X12_league_57 ⟨fun c => absurd c (by decide), fun _ => (fine_ok h).to ?_⟩
    rintro _ m' ⟨eq, rfl⟩
    obtain rfl := eq.symm
    refine ⟨1, rfl, fun c => absurd c (by decide), fun _ => (passes_ok A h (by decide)).to ?_⟩
    rintro _ m4 ⟨rfl, h4, f4⟩
    have I4 := I.fx f4
    have F4 : Fx (RS [20, 21, 22, 27]) m m4 := F.tr f4 (RS_sub rfl)
    have N4 : lhN fr sd il sk m4 := N.at (funext fun k => f4.at (by show ¬ (([22] : List Nat).elem 27 = true); decide)) (funext fun k => f4.at (by show ¬ (([22] : List Nat).elem 27 = true); decide))
    obtain ⟨V1, V2, V3, V4, V5⟩ := V
    refine ⟨_, rfl, fun c => ?_, fun c => ?_⟩
    · -- a side
      have hnp : ¬ passF tx e 119 (p, -1) = true := (bz_if rfl).1 c
      rw [if_neg hnp] at h4
      have n119 : p < e → tx p ≠ 119 := fun q z => hnp ((pass_iff (by decide)).mpr ⟨q, z⟩)
      refine ⟨fun c8 => ?_, fun c8 => ?_⟩
      · have sd7 : sd < 8 := by
          have : sd ≠ 8 := fun q => c8 (by rw [q]; rfl)
          omega
        rw [LO_open (fun hk0 => n119 (by omega)) sd7 V3] at hO
        have L : ∀ (j a p' : Nat) (sk' : Nat → Int32) (m5 : Wm), a + j = 4 → p ≤ p' → PS 195 ty 76 e tx p' (-1) m5 → LO tx (decide (76 < ty)) (e - p') p' (2, min a ar, ln + 1, sd + 1, ar, fr, wp, updB il sd false, sk') = O →
            (∀ k, 4 * fr ≤ k → k < 4 * sd + a → m5.1 197 k = sk' k) → (∀ k, 4 * sd + a ≤ k → k < 4 * sd + 4 → sk' k = 0) → (∀ s, fr ≤ s → s < sd → m5.1 198 s = if il s = true then 1 else 0) → lgI m m5 → Fx (RS [20, 21, 22, 27]) m m5 →
            AW ad E0 μX12_league (d + 4 + 1) (lhQ m O) 115 [(0, .ref (ad 187)), (1, .int (nI ar)), (2, .int (nI fr)), (3, .int (nI sd)), (4, .int x4), (5, .int (nI ln)), (7, .int (nI a))] [] m5 := by
          intro j
          induction j with
          | zero =>
            intro a p' sk' m5 ha hp h5 hO5 r1 r2 r3 I5 F5
            obtain rfl : a = 4 := ha
            have emin : min 4 ar = ar := by omega
            rw [emin] at hO5
            refine g_X12_league_115 ⟨fun _ => (passes_ok A h5 (by decide)).to ?_, fun q => absurd ((le_l 4 4 rfl (by omega) (by omega)).mpr (by omega)) q⟩
            rintro _ m6 ⟨rfl, h6, f6⟩
            have I6 := I5.fx f6
            have F6 : Fx (RS [20, 21, 22, 27]) m m6 := F5.tr f6 (RS_sub rfl)
            have g197 : ∀ k, m6.1 197 k = m5.1 197 k := fun k => f6.at (by show ¬ (([22] : List Nat).elem 27 = true); decide)
            have g198 : ∀ k, m6.1 198 k = m5.1 198 k := fun k => f6.at (by show ¬ (([22] : List Nat).elem 27 = true); decide)
            refine ⟨_, rfl, nat_in (by omega) (by decide), ?_⟩
            rw [nI_1 sd, nI_1 ln, nI_clamp (by omega)]
            obtain ⟨i1, i2, i3, i4⟩ := I6
            have V' : lhV n a0 (sd + 1) ar fr wp := ⟨by omega, by omega, V3, V4, V5⟩
            by_cases h33 : passF tx e 33 (p', -1) = true
            · rw [if_pos h33] at h6 ⊢
              obtain ⟨q1, q2⟩ := (pass_iff (by decide)).mp h33
              rw [ep_s q1, LO_s (by rw [q2]; exact lst_i)] at hO5
              refine nx 3 ar (ln + 1) (sd + 1) ar fr (p' + 1) wp _ sk' x4 _ (by omega) (h6.u (by decide) (by decide)) hO5 (Or.inl rfl) (fun q => absurd q (by decide)) V' (Or.inr (by omega)) hx ⟨i1.n rfl, i2.i rfl, i3, i4⟩ ⟨fun k h1 h2 => ?_, fun s h1 h2 => ?_⟩ (F6.i rfl)
              · exact (u_ne (by omega)).trans ((g197 k).trans (r1 k h1 (by omega)))
              · by_cases hs : s = sd
                · subst hs
                  refine u_eq.trans ?_
                  rw [if_pos (by simp [updB])]
                  rfl
                · refine (u_ne (fun q => hs q.2)).trans ((g198 s).trans ((r3 s h1 (by omega)).trans ?_))
                  have e1 : updB (updB il sd false) (sd + 1 - 1) true s = il s := by simp [updB, hs]
                  rw [e1]
            · rw [if_neg h33] at h6 ⊢
              refine nx 2 ar (ln + 1) (sd + 1) ar fr p' wp _ sk' x4 _ hp (h6.u (by decide) (by decide)) hO5 (Or.inr ⟨rfl, rfl⟩) (fun _ q z => h33 ((pass_iff (by decide)).mpr ⟨q, z⟩)) V' (Or.inr (by omega)) hx ⟨i1.n rfl, i2.i rfl, i3, i4⟩ ⟨fun k h1 h2 => ?_, fun s h1 h2 => ?_⟩ (F6.i rfl)
              · exact (u_ne (by omega)).trans ((g197 k).trans (r1 k h1 (by omega)))
              · by_cases hs : s = sd
                · subst hs
                  refine u_eq.trans ?_
                  rw [if_neg (by simp [updB])]
                  rfl
                · refine (u_ne (fun q => hs q.2)).trans ((g198 s).trans ((r3 s h1 (by omega)).trans ?_))
                  have e1 : updB il sd false s = il s := by simp [updB, hs]
                  rw [e1]
          | succ j ih2 =>
            intro a p' sk' m5 ha hp h5 hO5 r1 r2 r3 I5 F5
            have l4 : (4 : Int32) * nI sd + nI a = nI (4 * sd + a) := by rw [l_mul 4 4 rfl, nI_add]
            refine g_X12_league_115 ⟨fun q => absurd ((le_l 4 4 rfl (by omega) (by omega)).mp q) (by omega), fun _ => ?_⟩
            rw [l4, nI_1 a, nI_clamp (by omega)]
            refine ⟨fun ca => ⟨nat_in (by omega) (by decide), ?_⟩, fun ca => (digit_ok A h5 (lo := 0) (hi := 7) (by decide)).to ?_⟩
            · have ha' : ar ≤ a := (nI_leI (by omega) (by omega)).mp ca
              obtain ⟨i1, i2, i3, i4⟩ := I5
              refine ih2 (a + 1) p' sk' _ (by omega) hp (h5.u (by decide) (by decide)) ?_ (fun k h1 h2 => ?_) (fun k h1 h2 => r2 k (by omega) h2) (fun s h1 h2 => (u_ne (by omega)).trans (r3 s h1 h2)) ⟨i1.n rfl, i2.i rfl, i3, i4⟩ (F5.i rfl)
              · rw [show min (a + 1) ar = min a ar by omega]; exact hO5
              · by_cases hk' : k = 4 * sd + a
                · subst hk'
                  exact u_eq.trans (r2 _ (by omega) (by omega)).symm
                · exact (u_ne (fun q => hk' q.2)).trans (r1 k h1 (by omega))
            · have ha' : a < ar := Nat.lt_of_not_le (fun q => ca ((nI_leI (by omega) (by omega)).mpr q))
              rw [show min a ar = a by omega] at hO5
              rintro _ m6 ⟨rfl, h6, f6⟩
              have I6 := I5.fx f6
              have F6 : Fx (RS [20, 21, 22, 27]) m m6 := F5.tr f6 (RS_sub rfl)
              have g197 : ∀ k, m6.1 197 k = m5.1 197 k := fun k => f6.at (by show ¬ (([22] : List Nat).elem 27 = true); decide)
              have g198 : ∀ k, m6.1 198 k = m5.1 198 k := fun k => f6.at (by show ¬ (([22] : List Nat).elem 27 = true); decide)
              obtain ⟨i1, i2, i3, i4⟩ := I6
              have hp'e : p' ≤ e := h5.2.2.2.2.2.1
              by_cases hg : p' < e ∧ 0 ≤ (tx p' - 48).toInt ∧ (tx p' - 48).toInt ≤ 7
              · obtain ⟨hlt, hg1, hg2⟩ := hg
                have e1 : digF tx e 0 7 (p', -1) = (tx p' - 48, (p' + 1, -1)) := by
                  unfold digF
                  rw [if_pos rfl, hr_in hlt, if_pos ((dgi (lo := 0) (hi := 7) (l := 0) (u := 7) rfl rfl (by decide) (by decide)).mpr ⟨hg1, hg2⟩)]
                rw [e1] at h6 ⊢
                rw [ep_s hlt, LO_s (lst_d ⟨hg1, hg2⟩ ha')] at hO5
                refine ⟨_, rfl, nat_in (by omega) (by decide), ih2 (a + 1) (p' + 1) _ _ (by omega) (by omega) (h6.u (by decide) (by decide)) (by rw [show min (a + 1) ar = a + 1 by omega]; exact hO5) (fun k h1 h2 => ?_) (fun k h1 h2 => ?_) (fun s h1 h2 => (u_ne (by omega)).trans ((g198 s).trans (r3 s h1 h2))) ⟨i1.n rfl, i2.i rfl, i3, i4⟩ (F6.i rfl)⟩
                · show _ = (if k = 4 * (sd + 1 - 1) + a then tx p' - 48 else sk' k)
                  rw [Nat.add_sub_cancel]
                  by_cases hk' : k = 4 * sd + a
                  · subst hk'
                    rw [if_pos rfl]
                    exact u_eq
                  · rw [if_neg hk']
                    exact (u_ne (fun q => hk' q.2)).trans ((g197 k).trans (r1 k h1 (by omega)))
                · show (if k = 4 * (sd + 1 - 1) + a then tx p' - 48 else sk' k) = 0
                  rw [Nat.add_sub_cancel, if_neg (by omega)]
                  exact r2 k (by omega) h2
              · have e1 : digF tx e 0 7 (p', -1) = (0, (p', nI p')) := by
                  unfold digF
                  rw [if_pos rfl]
                  rw [if_neg (fun q => hg (by
                    by_cases hlt : p' < e
                    · rw [hr_in hlt] at q
                      exact ⟨hlt, (dgi (lo := 0) (hi := 7) (l := 0) (u := 7) rfl rfl (by decide) (by decide)).mp q⟩
                    · rw [hr_out hlt] at q
                      exact absurd q.1 (by decide)))]
                  unfold fltF
                  rw [if_pos rfl]
                rw [e1] at h6 ⊢
                have hO6 : O = .inl p' := by
                  by_cases hlt : p' < e
                  · rw [← hO5, ep_s hlt, LO_f (lst_dn (fun q => hg ⟨hlt, q⟩) ha')]
                  · rw [← hO5, show e - p' = 0 by omega, LO_n (fun q => by have := q.2; omega)]
                refine ⟨_, rfl, nat_in (by omega) (by decide), lh_dead115 A hO6 (by omega) sd7 rfl j (a + 1) _ (by omega) (h6.u (by decide) (by decide)) ⟨i1.n rfl, i2.i rfl, i3, i4⟩ (F6.i rfl)⟩
        refine L 4 0 p _ m4 (by decide) (Nat.le_refl _) h4 (by rw [show min 0 ar = 0 by omega]; exact hO) (fun k h1 h2 => ?_) (fun k h1 h2 => ?_) N4.2 I4 F4
        · rw [N4.1 k h1 (by omega)]
          show _ = (if 4 * sd ≤ k ∧ k < 4 * sd + 4 then 0 else sk k)
          rw [if_neg (by omega)]
        · show (if 4 * sd ≤ k ∧ k < 4 * sd + 4 then 0 else sk k) = 0
          rw [if_pos (by omega)]
      · have sd8 : sd = 8 := by
          have := (nI_eq (a := sd) (b := 8) (by omega) (by decide)).mp c8
          exact this
        have hO6 : O = .inl p := by
          by_cases hlt : p < e
          · rw [← hO, ep_s hlt, LO_f (lst_8 (n119 hlt) (by omega))]
          · rw [← hO, show e - p = 0 by omega, LO_n (fun q => by have := q.2; omega)]
        rw [h4.2.2.2.1]
        refine (fault_ok A h4).to ?_
        rintro _ m5 ⟨rfl, h5, f5⟩
        refine ⟨rfl, lh_deadP A hO6 (by omega) h5 ?_ (I4.fx f5) (F4.tr f5 (RS_sub rfl))⟩
        unfold fltF
        rw [if_pos rfl]
    · -- w
      have hy : passF tx e 119 (p, -1) = true := (bz_if rfl).2 c
      rw [if_pos hy] at h4
      obtain ⟨q1, q2⟩ := (pass_iff (by decide)).mp hy
      rw [ep_s q1, LO_s (by rw [q2]; exact lst_w)] at hO
      refine (digit_ok A h4 (lo := 1) (hi := 4) (by decide)).to ?_
      rintro _ m6 ⟨rfl, h6, f6⟩
      have I6 := I4.fx f6
      have F6 : Fx (RS [20, 21, 22, 27]) m m6 := F4.tr f6 (RS_sub rfl)
      by_cases hg : p + 1 < e ∧ 1 ≤ (tx (p + 1) - 48).toInt ∧ (tx (p + 1) - 48).toInt ≤ 4
      · obtain ⟨hlt, hg1, hg2⟩ := hg
        have e1 : digF tx e 1 4 (p + 1, -1) = (tx (p + 1) - 48, (p + 1 + 1, -1)) := by
          unfold digF
          rw [if_pos rfl, hr_in hlt, if_pos ((dgi (lo := 1) (hi := 4) (l := 1) (u := 4) rfl rfl (by decide) (by decide)).mpr ⟨hg1, hg2⟩)]
        rw [e1] at h6 ⊢
        obtain ⟨j, hj, ej⟩ := zn_of (x := tx (p + 1) - 48) (by omega)
        have tj : (tx (p + 1) - 48).toInt = j := by rw [ej, nI_toInt hj]
        have cj : (tx (p + 1) - 48).toNatClampNeg = j := by rw [ej, nI_clamp hj]
        rw [ep_s hlt, LO_s (lst_a ⟨hg1, hg2⟩), cj] at hO
        rw [ej, nI_1 ln]
        exact ⟨_, rfl, nx 3 dg (ln + 1) 0 j 0 (p + 1 + 1) true _ _ 1 m6 (by omega) h6 hO (Or.inl rfl) (fun q => absurd q (by decide)) ⟨by decide, by decide, by omega, by omega, Or.inl rfl⟩ (Or.inl rfl) rfl I6 ⟨fun k h1 h2 => absurd h2 (by omega), fun s h1 h2 => absurd h2 (by omega)⟩ F6⟩
      · have e1 : digF tx e 1 4 (p + 1, -1) = (0, (p + 1, nI (p + 1))) := by
          unfold digF
          rw [if_pos rfl]
          rw [if_neg (fun q => hg (by
            by_cases hlt : p + 1 < e
            · rw [hr_in hlt] at q
              exact ⟨hlt, (dgi (lo := 1) (hi := 4) (l := 1) (u := 4) rfl rfl (by decide) (by decide)).mp q⟩
            · rw [hr_out hlt] at q
              exact absurd q.1 (by decide)))]
          unfold fltF
          rw [if_pos rfl]
        rw [e1] at h6 ⊢
        have hO6 : O = .inl (p + 1) := by
          by_cases hlt : p + 1 < e
          · rw [← hO, ep_s hlt, LO_f (lst_an (fun q => hg ⟨hlt, q⟩))]
          · rw [← hO, show e - (p + 1) = 0 by omega, LO_n (fun q => by have := q.2; omega)]
        exact ⟨_, rfl, lh_deadP A hO6 (by omega) h6 rfl I6 F6⟩
/-- the model's league(), of a text that is not empty -/
theorem e_leagueM {n a0 t : Nat} (w : WT m) (hn : m.1 187 1 = nI n) (hn8 : n ≤ 8) (ha0 : m.1 187 0 = nI a0) (h1 : 1 ≤ a0) (h4 : a0 ≤ 4) (ht : m.1 187 14 = nI t) (ht0 : t ≠ 0) (ht80 : t ≤ 80) (il : Nat → Bool) (sk : Nat → Int32) :
    Ct ad μX12_league (d + 5) [.ref (ad 187)] m (lhQ m (LO (m.1 195) (decide (76 < t)) (minT t 76) 0 (0, 0, 0, n, a0, n, false, il, sk))) := by
  have w0 : WT (uI m 187 17 0) := w.n rfl
  have A := pa_text (n := t) (t := 76) (by omega) (by decide)
  have he80 : minT t 76 ≤ 80 := by unfold minT; split <;> omega
  refine v_X12_league (d := d + 4) ((begin_ok (na := 80) rfl).to ?_)
  rintro _ m1 ⟨rfl, e1⟩
  have e1' : m1 = bgM (uI m 187 17 0) 195 (nI t) (nI 76) := by rw [e1]; show _ = bgM _ _ (nI t) _; rw [← ht]; rfl
  subst e1'
  clear e1
  have f1 : Fx (RS [22]) (uI m 187 17 0) (bgM (uI m 187 17 0) 195 (nI t) (nI 76)) := bg_fx
  have P1 : PS 195 t 76 (minT t 76) ((uI m 187 17 0).1 195) 0 (-1) (bgM (uI m 187 17 0) 195 (nI t) (nI 76)) := bg_ps he80 (by decide)
  have w1 := w0.fx f1
  have F1 : Fx (RS [20, 21, 22, 27]) m (bgM (uI m 187 17 0) 195 (nI t) (nI 76)) := ((Fx.rf (S := RS [20, 21, 22, 27]) (m := m)).i (a := 187) (k := 17) (v := 0) rfl).tr f1 (RS_sub rfl)
  generalize bgM (uI m 187 17 0) 195 (nI t) (nI 76) = mb at f1 P1 w1 F1 ⊢
  have w2 : WT (uI mb 187 14 0) := w1.t rfl (by decide) (by decide)
  have P2 : PS 195 t 76 (minT t 76) (m.1 195) 0 (-1) (uI mb 187 14 0) := by
    obtain ⟨b1, b2, b3, b4, b5, b6, b7⟩ := P1
    exact ⟨b1, b2, b3, b4, b5, b6, fun k hk => b7 k hk⟩
  have F2 : Fx (RS [20, 21, 22, 27]) m (uI mb 187 14 0) := F1.i rfl
  have I2 : lgI m (uI mb 187 14 0) := ⟨w2, (Fx.rf (S := RS [20, 21, 22, 23, 24, 25, 27, 29, 39, 45, 46, 52])).tr F2 (RS_sub rfl), rfl, Or.inl ⟨F1.at (a := 187) (k := 10) (by decide), F1.at (a := 187) (k := 11) (by decide)⟩⟩
  have h01 : (uI mb 187 14 0).1 187 1 = nI n := (F2.at (a := 187) (k := 1) (by decide)).trans hn
  have h00 : (uI mb 187 14 0).1 187 0 = nI a0 := (F2.at (a := 187) (k := 0) (by decide)).trans ha0
  have h19 : (uI mb 187 14 0).1 187 19 = nI t := P2.2.1
  generalize uI mb 187 14 0 = mc at w2 P2 F2 I2 h01 h00 h19 ⊢
  refine ⟨rfl, fun _ => ?_, fun c => ?_⟩
  · rw [h01, h00]
    exact lh_loop A hn ha0 81 0 0 n a0 n 0 false il sk 0 mc (by omega) P2 rfl ⟨Nat.le_refl _, hn8, h1, h4, Or.inr ⟨rfl, rfl⟩⟩ rfl I2 ⟨fun k h1 h2 => absurd h2 (by omega), fun s h1 h2 => absurd h2 (by omega)⟩ F2
  · rw [h19] at c
    exact absurd ((nI_eq (a := t) (b := 0) (by omega) (by decide)).mp c) ht0
end LHL
