/-! ONE CALL ON NEW OBJECTS: class and reference answer alike -/
theorem Sm.at' {m m' : Wm} {a k : Nat} {c : Int32} (h : Sm m m') (ha : 187 ≤ a) (hc : m.1 a k = c) : m'.1 a k = c := (congrFun (h a ha).1 k).trans hc

set_option maxRecDepth 100000 in
theorem z_33 : m0.1 3 3 = 0 := by decide +kernel
set_option maxRecDepth 100000 in
theorem z_34 : m0.1 3 4 = 2 := by decide +kernel
set_option maxRecDepth 100000 in
theorem z_11 : m0.1 1 1 = 0 := by decide +kernel
set_option maxRecDepth 100000 in
theorem z_015 : m0.1 0 15 = 0 := by decide +kernel
set_option maxRecDepth 100000 in
theorem z_018 : m0.1 0 18 = 0 := by decide +kernel
set_option maxRecDepth 100000 in
theorem z_011 : m0.1 0 11 = 0 := by decide +kernel
set_option maxRecDepth 100000 in
theorem z_311 : m0.1 31 1 = 0 := by decide +kernel
set_option maxRecDepth 100000 in
theorem z_1514 : m0.1 151 4 = 0 := by decide +kernel
set_option maxRecDepth 100000 in
theorem z_154 : m0.1 154 0 = 0 := by decide +kernel
set_option maxRecDepth 100000 in
theorem z_214 : m0.1 21 4 = 1 := by decide +kernel
set_option maxRecDepth 100000 in
theorem z_r9 : m0.2.2 0 9 = some 134 := by decide +kernel
set_option maxRecDepth 100000 in
theorem z_r10 : m0.2.2 0 10 = some 140 := by decide +kernel
set_option maxRecDepth 100000 in
theorem z_r1 : m0.2.2 3 1 = some 5 := by decide +kernel
set_option maxRecDepth 100000 in
theorem z_r2 : m0.2.2 3 2 = some 10 := by decide +kernel
set_option maxRecDepth 100000 in
theorem z_p5 : m0.1 134 5 = 0 := by decide +kernel
set_option maxRecDepth 100000 in
theorem z_p6 : m0.1 134 6 = 0 := by decide +kernel
set_option maxRecDepth 100000 in
theorem z_k0 : m0.2.2 133 0 = some 173 := by decide +kernel
set_option maxRecDepth 100000 in
theorem z_k1 : m0.2.2 133 1 = some 180 := by decide +kernel
set_option maxRecDepth 100000 in
theorem z_t0 : m0.1 173 4 = 0 := by decide +kernel
set_option maxRecDepth 100000 in
theorem z_t1 : m0.1 180 4 = 0 := by decide +kernel
set_option maxRecDepth 100000 in
theorem y_1 : m0.1 187 1 = 0 := by decide +kernel
set_option maxRecDepth 100000 in
theorem y_0 : m0.1 187 0 = 2 := by decide +kernel
set_option maxRecDepth 100000 in
theorem y_11 : m0.1 187 11 = 0 := by decide +kernel
set_option maxRecDepth 100000 in
theorem y_12 : m0.1 187 12 = 0 := by decide +kernel
set_option maxRecDepth 100000 in
theorem y_14 : m0.1 187 14 = 0 := by decide +kernel
set_option maxRecDepth 100000 in
theorem y_16 : m0.1 187 16 = 0 := by decide +kernel
set_option maxRecDepth 100000 in
theorem y_30 : m0.1 187 30 = 0 := by decide +kernel
set_option maxRecDepth 100000 in
theorem y_52 : m0.1 187 52 = 0 := by decide +kernel
set_option maxRecDepth 100000 in
theorem y_10 : m0.1 187 10 = 0 := by decide +kernel
set_option maxRecDepth 100000 in
theorem y_8 : m0.1 187 8 = 1 := by decide +kernel
set_option maxRecDepth 100000 in
theorem y_17 : m0.1 187 17 = 0 := by decide +kernel
set_option maxRecDepth 100000 in
theorem z_22' : ∀ k : Fin 32, m0.1 22 k.val = 0 := by decide +kernel
set_option maxRecDepth 100000 in
theorem z_22 (k : Nat) (h : k < 32) : m0.1 22 k = 0 := z_22' ⟨k, h⟩
set_option maxRecDepth 100000 in
theorem y_215' : ∀ k : Fin 2, m0.1 215 k.val = 0 := by decide +kernel
set_option maxRecDepth 100000 in
theorem z_4' : ∀ k : Fin 5, m0.1 4 k.val = m0.1 193 k.val := by decide +kernel
abbrev I0 : Wm → Prop := fun m => m = m0
abbrev J0 : Wm → Prop := fun _ => True
section P1E
variable {ad : Nat → Nat} {d : Nat}
theorem p_skill : O_skill ad d I0 J0 := fun a b m hm => by
  subst hm
  refine (c_skill z_33).to ?_
  rintro _ m1 ⟨rfl, hs⟩
  refine ⟨_, rfl, (k_skill (hs.at' (by decide) y_1)).to ?_⟩
  rintro _ _ h
  exact ⟨h, trivial⟩
theorem p_mean : O_mean ad d I0 J0 := fun a b m hm => by
  subst hm
  refine (c_mean z_33).to ?_
  rintro _ m1 ⟨rfl, hs⟩
  refine ⟨_, rfl, (k_mean (hs.at' (by decide) y_1)).to ?_⟩
  rintro _ _ h
  exact ⟨h, trivial⟩
theorem p_soon : O_soon ad d I0 J0 := fun a b c m hm => by
  subst hm
  refine (c_soon z_33).to ?_
  rintro _ m1 ⟨rfl, hs⟩
  refine ⟨_, rfl, (k_soon (hs.at' (by decide) y_1)).to ?_⟩
  rintro _ _ h
  exact ⟨h, trivial⟩
theorem p_wins : O_wins ad d I0 J0 := fun a b c m hm => by
  subst hm
  refine (c_wins z_33).to ?_
  rintro _ m1 ⟨rfl, hs⟩
  refine ⟨_, rfl, (k_wins (hs.at' (by decide) y_1)).to ?_⟩
  rintro _ _ h
  exact ⟨h, trivial⟩
theorem p_top : O_top ad d I0 J0 := fun a b c m hm => by
  subst hm
  refine (c_top z_33).to ?_
  rintro _ m1 ⟨rfl, hs⟩
  refine ⟨_, rfl, (k_top (hs.at' (by decide) y_1)).to ?_⟩
  rintro _ _ h
  exact ⟨h, trivial⟩
theorem p_best : O_best ad d I0 J0 := fun a b m hm => by
  subst hm
  refine (c_best z_33).to ?_
  rintro _ m1 ⟨rfl, hs⟩
  refine ⟨_, rfl, (k_best (hs.at' (by decide) y_1)).to ?_⟩
  rintro _ _ h
  exact ⟨h, trivial⟩
theorem p_pays : O_pays ad d I0 J0 := fun a b m hm => by
  subst hm
  refine (c_pays z_33).to ?_
  rintro _ m1 ⟨rfl, hs⟩
  refine ⟨_, rfl, (k_pays (hs.at' (by decide) y_1)).to ?_⟩
  rintro _ _ h
  exact ⟨h, trivial⟩
theorem p_beats : O_beats ad d I0 J0 := fun a m hm => by
  subst hm
  refine (c_beats z_33).to ?_
  rintro _ m1 ⟨rfl, hs⟩
  refine ⟨_, rfl, (k_beats (hs.at' (by decide) y_1)).to ?_⟩
  rintro _ _ h
  exact ⟨h, trivial⟩
theorem p_next : O_next ad d I0 J0 := fun a m hm => by
  subst hm
  refine (c_next z_33).to ?_
  rintro _ m1 ⟨rfl, hs⟩
  refine ⟨_, rfl, (k_next (hs.at' (by decide) y_1)).to ?_⟩
  rintro _ _ h
  exact ⟨h, trivial⟩
theorem p_swap : O_swap ad d I0 J0 := fun a b m hm => by
  subst hm
  refine (c_swap z_33).to ?_
  rintro _ m1 ⟨rfl, hs⟩
  refine ⟨_, rfl, (k_swap (hs.at' (by decide) y_1)).to ?_⟩
  rintro _ _ h
  exact ⟨h, trivial⟩
theorem p_game : O_game ad d I0 J0 := fun a b c m hm => by
  subst hm
  refine (c_game z_33).to ?_
  rintro _ m1 ⟨rfl, hs⟩
  refine ⟨_, rfl, (k_game (hs.at' (by decide) y_1)).to ?_⟩
  rintro _ _ h
  exact ⟨h, trivial⟩
theorem p_odds : O_odds ad d I0 J0 := fun a b m hm => by
  subst hm
  refine (c_odds z_33).to ?_
  rintro _ m1 ⟨rfl, hs⟩
  refine ⟨_, rfl, (k_odds (hs.at' (by decide) y_1)).to ?_⟩
  rintro _ _ h
  exact ⟨h, trivial⟩
theorem p_play : O_play ad d I0 J0 := fun a b c m hm => by
  subst hm
  refine (c_play z_33).to ?_
  rintro _ m1 ⟨rfl, hs⟩
  refine ⟨_, rfl, (k_play (hs.at' (by decide) y_1)).to ?_⟩
  rintro _ _ h
  exact ⟨h, trivial⟩
theorem p_seen : O_seen ad d I0 J0 := fun a b c m hm => by
  subst hm
  refine (c_seen z_33).to ?_
  rintro _ m1 ⟨rfl, hs⟩
  refine ⟨_, rfl, (k_seen (hs.at' (by decide) y_1)).to ?_⟩
  rintro _ _ h
  exact ⟨h, trivial⟩
theorem p_circle : O_circle ad d I0 J0 := fun m hm => by
  subst hm
  refine (c_circle z_33).to ?_
  rintro _ m1 ⟨rfl, hs⟩
  refine ⟨_, rfl, (k_circle (hs.at' (by decide) y_1)).to ?_⟩
  rintro _ _ h
  exact ⟨h, trivial⟩
theorem p_prize : O_prize ad d I0 J0 := fun m hm => by
  subst hm
  refine (c_prize z_33).to ?_
  rintro _ m1 ⟨rfl, hs⟩
  refine ⟨_, rfl, (k_prize (hs.at' (by decide) y_1)).to ?_⟩
  rintro _ _ h
  exact ⟨h, trivial⟩
theorem p_spread : O_spread ad d I0 J0 := fun m hm => by
  subst hm
  refine (c_spread z_33).to ?_
  rintro _ m1 ⟨rfl, hs⟩
  refine ⟨_, rfl, (k_spread (hs.at' (by decide) y_1)).to ?_⟩
  rintro _ _ h
  exact ⟨h, trivial⟩
theorem p_table : O_table ad d I0 J0 := fun m hm => by
  subst hm
  refine (c_table z_33).to ?_
  rintro _ m1 ⟨rfl, hs⟩
  refine ⟨_, rfl, (k_table (hs.at' (by decide) y_1)).to ?_⟩
  rintro _ _ h
  exact ⟨h, trivial⟩
theorem p_kings : O_kings ad d I0 J0 := fun m hm => by
  subst hm
  refine (c_kings z_33).to ?_
  rintro _ m1 ⟨rfl, hs⟩
  refine ⟨_, rfl, (k_kings (hs.at' (by decide) y_1)).to ?_⟩
  rintro _ _ h
  exact ⟨h, trivial⟩
theorem p_even : O_even ad d I0 J0 := fun a m hm => by
  subst hm
  refine (c_even z_33).to ?_
  rintro _ m1 ⟨rfl, hs⟩
  refine ⟨_, rfl, (k_even (hs.at' (by decide) y_1)).to ?_⟩
  rintro _ _ h
  exact ⟨h, trivial⟩
theorem p_judge : O_judge ad d I0 J0 := fun a b m hm => by
  subst hm
  refine (c_judge z_33).to ?_
  rintro _ m1 ⟨rfl, hs⟩
  refine ⟨_, rfl, (k_judge (hs.at' (by decide) y_1)).to ?_⟩
  rintro _ _ h
  exact ⟨h, trivial⟩
theorem p_ill : O_ill ad d I0 J0 := fun a b hb m hm => by
  subst hm
  refine (c_ill z_33).to ?_
  rintro _ m1 ⟨rfl, hs⟩
  refine ⟨_, rfl, (k_ill (hs.at' (by decide) y_1)).to ?_⟩
  rintro _ _ h
  exact ⟨h, trivial⟩
theorem p_sign : O_sign ad d I0 J0 := fun a m hm => by
  subst hm
  refine (c_sign z_11).to ?_
  rintro _ m1 ⟨rfl, hs⟩
  refine ⟨_, rfl, (k_sign (hs.at' (by decide) y_14)).to ?_⟩
  rintro _ _ h
  exact ⟨h, trivial⟩
theorem p_league : O_league ad d I0 J0 := fun m hm => by
  subst hm
  refine (c_league z_11).to ?_
  rintro _ m1 ⟨rfl, hs⟩
  refine ⟨_, rfl, (k_league (hs.at' (by decide) y_14)).to ?_⟩
  rintro _ _ h
  exact ⟨h, trivial⟩
theorem p_rule : O_rule ad d I0 J0 := fun m hm => by
  subst hm
  refine (c_rule (r := 10) (r4 := 5) z_11 z_r2 Ru_10 z_r1 Ru_5 (by decide) (by decide) (by decide)).to ?_
  rintro _ m1 ⟨rfl, hs⟩
  refine ⟨_, rfl, (k_rule (hs.at' (by decide) y_14)).to ?_⟩
  rintro _ _ h
  exact ⟨h, trivial⟩
theorem p_plan : O_plan ad d I0 J0 := fun m hm => by
  subst hm
  refine (c_plan (r := 140) (r4 := 134) z_11 z_r10 Pl_140 z_r9 Pl_134 (by decide) (by decide) (by decide)).to ?_
  rintro _ m1 ⟨rfl, hs⟩
  refine ⟨_, rfl, (k_plan (hs.at' (by decide) y_14)).to ?_⟩
  rintro _ _ h
  exact ⟨h, trivial⟩
theorem p_undo : O_undo ad d I0 J0 := fun m hm => by
  subst hm
  refine (c_undo z_311).to ?_
  rintro _ m1 ⟨rfl, hs⟩
  refine ⟨_, rfl, (k_undo (hs.at' (by decide) y_30)).to ?_⟩
  rintro _ _ h
  exact ⟨h, trivial⟩
theorem p_rest : O_rest ad d I0 J0 := fun m hm => by
  subst hm
  refine (c_rest (r := 134) z_r9 Pl_134 z_p5).to ?_
  rintro _ m1 ⟨rfl, hs⟩
  refine ⟨_, rfl, (k_rest (hs.at' (by decide) y_11)).to ?_⟩
  rintro _ _ h
  exact ⟨h, trivial⟩
theorem p_rounds : O_rounds ad d I0 J0 := fun a m hm => by
  subst hm
  refine (c_rounds (r := 134) z_r9 Pl_134 z_p5).to ?_
  rintro _ m1 ⟨rfl, hs⟩
  refine ⟨_, rfl, (k_rounds (hs.at' (by decide) y_11)).to ?_⟩
  rintro _ _ h
  exact ⟨h, trivial⟩
theorem p_hopes : O_hopes ad d I0 J0 := fun a m hm => by
  subst hm
  refine (c_hopes (r := 134) z_r9 Pl_134 z_p5).to ?_
  rintro _ m1 ⟨rfl, hs⟩
  refine ⟨_, rfl, (k_hopes (hs.at' (by decide) y_11)).to ?_⟩
  rintro _ _ h
  exact ⟨h, trivial⟩
theorem p_laws : O_laws ad d I0 J0 := fun a m hm => by
  subst hm
  refine (c_laws (r := 134) z_r9 Pl_134 z_p5).to ?_
  rintro _ m1 ⟨rfl, hs⟩
  refine ⟨_, rfl, (k_laws (hs.at' (by decide) y_11)).to ?_⟩
  rintro _ _ h
  exact ⟨h, trivial⟩
theorem p_master : O_master ad d I0 J0 := fun a m hm => by
  subst hm
  refine (c_master z_33 z_34).to ?_
  rintro _ m1 ⟨rfl, hs⟩
  refine ⟨_, rfl, (k_master (hs.at' (by decide) y_1) (hs.at' (by decide) y_0)).to ?_⟩
  rintro _ _ h
  exact ⟨h, trivial⟩
theorem p_sheet : O_sheet ad d I0 J0 := fun a k n f s m hm => by
  subst hm
  refine (c_sheet z_33 z_34).to ?_
  rintro _ m1 ⟨rfl, hs⟩
  refine ⟨_, rfl, (k_sheet (hs.at' (by decide) y_1) (hs.at' (by decide) y_0)).to ?_⟩
  rintro _ _ h
  exact ⟨h, trivial⟩
theorem p_found : O_found ad d I0 J0 := fun m hm => by
  subst hm
  refine (c_found z_33 z_015).to ?_
  rintro _ m1 ⟨rfl, hs⟩
  refine ⟨_, rfl, (k_found (hs.at' (by decide) y_1)).to ?_⟩
  rintro _ _ h
  exact ⟨h, trivial⟩
theorem p_quick : O_quick ad d I0 J0 := fun a m hm => by
  subst hm
  refine (c_quick z_22 z_33 z_1514 z_154).to ?_
  rintro _ m1 ⟨rfl, hs⟩
  refine ⟨_, rfl, (k_quick (hs.at' (by decide) y_1)).to ?_⟩
  rintro _ _ h
  exact ⟨h, trivial⟩
theorem p_all : O_all ad d I0 J0 := fun m hm => by
  subst hm
  refine (c_all z_22 z_33 z_1514 z_154).to ?_
  rintro _ m1 ⟨rfl, hs⟩
  refine ⟨_, rfl, (k_all (hs.at' (by decide) y_1)).to ?_⟩
  rintro _ _ h
  exact ⟨h, trivial⟩
theorem p_seed : O_seed ad d I0 J0 := fun a m hm => by
  subst hm
  refine (c_seed).to ?_
  rintro _ m1 ⟨rfl, hs⟩
  refine ⟨_, rfl, (k_seed).to ?_⟩
  rintro _ _ h
  exact ⟨(by rw [h, z_214, (hs.at' (by decide) y_8)]), trivial⟩
theorem p_end : O_end ad d I0 J0 := fun a m hm => by
  subst hm
  refine (c_end).to ?_
  rintro _ m1 ⟨rfl, hs⟩
  refine ⟨_, rfl, (k_end (hs.at' (by decide) y_14)).to ?_⟩
  rintro _ _ h
  exact ⟨(by rw [h, z_11]), trivial⟩
theorem kp0 (j : Nat) (hj : j < 2) : ∃ r, m0.2.2 133 j = some r ∧ Ke r ∧ m0.1 r 4 = 0 := by
  have hc : j = 0 ∨ j = 1 := by omega
  rcases hc with rfl | rfl
  · exact ⟨173, z_k0, Ke_173, z_t0⟩
  · exact ⟨180, z_k1, Ke_180, z_t1⟩
theorem kp1 (j : Nat) (hj : j < 2) : ∃ r, m0.2.2 133 j = some r ∧ Ke r ∧ r + 6 < 187 := by
  have hc : j = 0 ∨ j = 1 := by omega
  rcases hc with rfl | rfl
  · exact ⟨173, z_k0, Ke_173, by decide⟩
  · exact ⟨180, z_k1, Ke_180, by decide⟩
set_option maxRecDepth 100000 in
theorem y_215 (j : Nat) (hj : j < 2) : m0.1 215 j = 0 := y_215' ⟨j, hj⟩
set_option maxRecDepth 100000 in
theorem z_4 (w : Int32) (h : w = 0 ∨ w = 1 ∨ w = 2 ∨ w = 3 ∨ w = 4) : m0.1 4 w.toNatClampNeg = m0.1 193 w.toNatClampNeg := by
  rcases h with rfl | rfl | rfl | rfl | rfl
  · exact z_4' 0
  · exact z_4' 1
  · exact z_4' 2
  · exact z_4' 3
  · exact z_4' 4
theorem p_again : O_again ad d I0 J0 := fun a m hm => by
  subst hm
  refine (c_again kp0).to ?_
  rintro _ m1 ⟨rfl, hs⟩
  refine ⟨_, rfl, (k_again (fun j hj => hs.at' (by decide) (y_215 j hj))).to ?_⟩
  rintro _ _ h
  exact ⟨h, trivial⟩
theorem p_keep : O_keep ad d I0 J0 := fun a m hm => by
  subst hm
  refine (c_keep kp1).to ?_
  rintro _ m1 ⟨rfl, hs⟩
  refine ⟨_, rfl, (k_keep).to ?_⟩
  rintro _ _ h
  exact ⟨h, trivial⟩
theorem p_count : O_count ad d I0 J0 := fun a m hm => by
  subst hm
  refine (c_count (r := 134) z_r9 Pl_134).to ?_
  rintro _ m1 ⟨rfl, hs⟩
  refine ⟨_, rfl, (k_count).to ?_⟩
  rintro _ _ h
  exact ⟨(by rw [h, z_33, z_34, z_p5, z_011, z_311, z_015, z_018, z_11, z_p6, (hs.at' (by decide) y_1), (hs.at' (by decide) y_0), (hs.at' (by decide) y_11), (hs.at' (by decide) y_12), (hs.at' (by decide) y_30), (hs.at' (by decide) y_52), (hs.at' (by decide) y_16), (hs.at' (by decide) y_14), (hs.at' (by decide) y_10)]), trivial⟩
theorem p_law : O_law ad d I0 J0 := fun a b m hm => by
  subst hm
  refine c_law.to ?_
  rintro _ m1 ⟨hs, rfl⟩
  refine ⟨_, rfl, k_law.to ?_⟩
  rintro _ _ h
  refine ⟨h.trans ?_, trivial⟩
  by_cases hc : LawC a b
  · have e : m0.1 4 a.toNatClampNeg = m1.1 193 a.toNatClampNeg := by
      rw [congrFun (hs 193 (by decide)).1 a.toNatClampNeg]
      exact z_4 a (by rcases hc with h | h | h | h | h <;> simp [h.1])
    rw [if_pos hc, e]
    exact (congrArg (fun x => some (Value.int x)) (if_pos hc)).symm
  · rw [if_neg hc]
    exact (congrArg (fun x => some (Value.int x)) (if_neg hc)).symm
theorem p_of : O_of ad d I0 J0 := fun a b m hm => by
  subst hm
  refine ctg_of (c_of z_33) (fun r m1 h => h.elim) (fun m1 h => ?_)
  subst h
  refine ⟨1, rfl, (k_of y_1).to ?_⟩
  rintro _ m3 ⟨rfl, h17⟩
  exact ⟨0, rfl, h17, fun h => absurd h (by decide), trivial⟩
theorem p_row : O_row ad d I0 J0 := fun a m hm => by
  subst hm
  refine ctg_row (c_row z_018) (fun r m1 h => h.elim) (fun m1 h => ?_)
  subst h
  refine ⟨1, rfl, (k_row y_16).to ?_⟩
  rintro _ m3 ⟨rfl, h17⟩
  exact ⟨0, rfl, h17, fun h => absurd h (by decide), trivial⟩
theorem p_ops : OPS ad d I0 J0 := ⟨p_sign, p_end, p_league, p_rule, p_plan, p_skill, p_of, p_law, p_sheet, p_ill, p_swap, p_circle, p_game, p_odds, p_play, p_undo, p_judge, p_rounds, p_beats, p_kings, p_master, p_table, p_spread, p_rest, p_mean, p_soon, p_wins, p_hopes, p_top, p_quick, p_best, p_even, p_all, p_next, p_seen, p_found, p_prize, p_pays, p_laws, p_seed, p_keep, p_again, p_count, p_row, fun _ _ => trivial⟩
theorem p1_run {sb Ls : Nat} {xs : Nat → Int32} (hL : Ls ≤ 6) : AWl LAY ad (EX (SX sb Ls xs) 2 12 LAY) μL_law (1747 + 301) (fun v _ => v = some (.int 1)) 23 [(0, .ref sb), (1, .ref (ad 0)), (2, .ref (ad 187)), (3, .ref (ad 217)), (4, .int 0)] [] m0 := by
  have hc : Ls / 6 = 0 ∨ Ls / 6 = 1 := by omega
  rcases hc with hc | hc
  · have := law_loop (ad := ad) (sb := sb) (xs := xs) (d := 1747) (Inv := fun k m => k = 0 → m = m0) (by omega) hc (fun k hk => by omega) 0 0 m0 rfl (fun _ => rfl)
    exact aw_drop (by decide) (by decide) this
  · exact law_loop (ad := ad) (sb := sb) (xs := xs) (d := 1747) (Inv := fun k m => k = 0 → m = m0) (by omega) hc (fun k hk => by
      obtain rfl : k = 0 := by omega
      have e1 : (fun m : Wm => 0 = 0 → m = m0) = I0 := funext fun m => propext ⟨fun h => h rfl, fun h _ => h⟩
      have e2 : (fun m : Wm => 0 + 1 = 0 → m = m0) = J0 := funext fun m => propext ⟨fun _ => trivial, fun _ h => by omega⟩
      rw [e1, e2]
      exact p_ops) 1 0 m0 rfl (fun _ => rfl)
end P1E
