/-! THE MODEL'S SIDE OF ONE CALL ON NEW OBJECTS -/
section P1M
variable {ad : Nat → Nat} {d : Nat} {m : Wm}
/-- the answer is c -/
abbrev Re (c : Int32) : Option Value → Wm → Prop := fun r _ => r = some (.int c)
theorem t17 {b j : Nat} {c : Int32} (h : m.1 b j = c) (hb : b ≠ 187 ∨ j ≠ 17) : (uI m 187 17 0).1 b j = c := by
  show (if b = 187 ∧ j = 17 then 0 else m.1 b j) = c
  rw [if_neg (by omega)]
  exact h
theorem side0 {x : Int32} (h : m.1 187 1 = 0) : Ct ad μX12_isSide (d + 1) [.ref (ad 187), .int x] m (fun r m' => m' = m ∧ r = some (.int 0)) := by
  refine isSide_ok.to ?_
  rintro _ _ ⟨rfl, rfl⟩
  rw [h, if_neg (fun q => by have h1 := (fa_le _ _).mp q.1; have h2 := (fa_le _ _).mp q.2; have e1 : (0 : Int32).toInt = 0 := rfl; have e2 : ((0 : Int32) - 1).toInt = -1 := rfl; omega)]
  exact ⟨rfl, rfl⟩
theorem two0 {x y : Int32} (h : m.1 187 1 = 0) : Ct ad μX12_areTwo (d + 2) [.ref (ad 187), .int x, .int y] m (fun r m' => m' = m ∧ r = some (.int 0)) :=
  v_X12_areTwo ((side0 h).to (by rintro _ _ ⟨rfl, rfl⟩; exact ⟨0, rfl, fun _ => ⟨rfl, rfl⟩, fun h => absurd rfl h⟩))
theorem art2 {x : Int32} (h : m.1 187 0 = 2) : Ct ad μX12_isArt (d + 1) [.ref (ad 187), .int x] m (fun r m' => m' = m ∧ r = some (.int (if x < 0 then 0 else if 2 ≤ x then 0 else 1))) := by
  refine isArt_ok.to ?_
  rintro _ _ ⟨rfl, rfl⟩
  rw [h]
  refine ⟨rfl, ?_⟩
  have e1 : (0 : Int32).toInt = 0 := rfl
  have e2 : (2 : Int32).toInt = 2 := rfl
  have e3 : ((2 : Int32) - 1).toInt = 1 := rfl
  by_cases h1 : x < 0
  · rw [if_neg (fun q => by have h2 := (fa_le _ _).mp q.1; have h3 := (fa_lt _ _).mp h1; omega), if_pos h1]
  · by_cases h2 : 2 ≤ x
    · rw [if_neg (fun q => by have h4 := (fa_le _ _).mp q.2; have h3 := (fa_le _ _).mp h2; omega), if_neg h1, if_pos h2]
    · rw [if_pos ⟨fa_of_nlt h1, (fa_le _ _).mpr (by have h3 := (fa_lt _ _).mp (fa_of_nle h2); omega)⟩, if_neg h1, if_neg h2]
theorem k_skill {a b : Int32} (h : m.1 187 1 = 0) : Ct ad μX12_skill (d + 2) [.ref (ad 187), .int a, .int b] m (Re (-1)) :=
  v_X12_skill ((side0 (t17 h (by decide))).to (by rintro _ _ ⟨rfl, rfl⟩; exact ⟨0, rfl, fun _ => rfl, fun h => absurd rfl h⟩))
theorem k_mean {a b : Int32} (h : m.1 187 1 = 0) : Ct ad μX12_mean (d + 2) [.ref (ad 187), .int a, .int b] m (Re (-1)) :=
  v_X12_mean ((side0 (t17 h (by decide))).to (by rintro _ _ ⟨rfl, rfl⟩; exact ⟨0, rfl, fun _ => rfl, fun h => absurd rfl h⟩))
theorem k_soon {a b c : Int32} (h : m.1 187 1 = 0) : Ct ad μX12_soon (d + 2) [.ref (ad 187), .int a, .int b, .int c] m (Re (-1)) :=
  v_X12_soon ((side0 (t17 h (by decide))).to (by rintro _ _ ⟨rfl, rfl⟩; exact ⟨0, rfl, fun _ => rfl, fun h => absurd rfl h⟩))
theorem k_wins {a b c : Int32} (h : m.1 187 1 = 0) : Ct ad μX12_wins (d + 2) [.ref (ad 187), .int a, .int b, .int c] m (Re (-1)) :=
  v_X12_wins ((side0 (t17 h (by decide))).to (by rintro _ _ ⟨rfl, rfl⟩; exact ⟨0, rfl, fun _ => rfl, fun h => absurd rfl h⟩))
theorem k_top {a b c : Int32} (h : m.1 187 1 = 0) : Ct ad μX12_top (d + 2) [.ref (ad 187), .int a, .int b, .int c] m (Re (-1)) :=
  v_X12_top ((side0 (t17 h (by decide))).to (by rintro _ _ ⟨rfl, rfl⟩; exact ⟨0, rfl, fun _ => rfl, fun h => absurd rfl h⟩))
theorem k_best {a b : Int32} (h : m.1 187 1 = 0) : Ct ad μX12_best (d + 2) [.ref (ad 187), .int a, .int b] m (Re (-1)) :=
  v_X12_best ((side0 (t17 h (by decide))).to (by rintro _ _ ⟨rfl, rfl⟩; exact ⟨0, rfl, fun _ => rfl, fun h => absurd rfl h⟩))
theorem k_pays {a b : Int32} (h : m.1 187 1 = 0) : Ct ad μX12_pays (d + 2) [.ref (ad 187), .int a, .int b] m (Re (-1)) :=
  v_X12_pays ((side0 (t17 h (by decide))).to (by rintro _ _ ⟨rfl, rfl⟩; exact ⟨0, rfl, fun _ => rfl, fun h => absurd rfl h⟩))
theorem k_ill {a b : Int32} (h : m.1 187 1 = 0) : Ct ad μX12_ill (d + 2) [.ref (ad 187), .int a, .int b] m (Re 0) :=
  v_X12_ill ((side0 (t17 h (by decide))).to (by rintro _ _ ⟨rfl, rfl⟩; exact ⟨0, rfl, fun h => absurd rfl h, fun _ => rfl⟩))
theorem k_beats {a : Int32} (h : m.1 187 1 = 0) : Ct ad μX12_beats (d + 2) [.ref (ad 187), .int a] m (Re (-1)) :=
  v_X12_beats ((side0 (t17 h (by decide))).to (by rintro _ _ ⟨rfl, rfl⟩; exact ⟨0, rfl, fun h => absurd rfl h, fun _ => rfl⟩))
theorem k_next {a : Int32} (h : m.1 187 1 = 0) : Ct ad μX12_next (d + 2) [.ref (ad 187), .int a] m (Re (-1)) :=
  v_X12_next ((side0 (t17 h (by decide))).to (by rintro _ _ ⟨rfl, rfl⟩; exact ⟨0, rfl, fun h => absurd rfl h, fun _ => rfl⟩))
theorem k_swap {a b : Int32} (h : m.1 187 1 = 0) : Ct ad μX12_swap (d + 3) [.ref (ad 187), .int a, .int b] m (Re 0) :=
  v_X12_swap ((two0 (t17 h (by decide))).to (by rintro _ _ ⟨rfl, rfl⟩; exact ⟨0, rfl, fun h => absurd rfl h, fun _ => rfl⟩))
theorem k_game {a b c : Int32} (h : m.1 187 1 = 0) : Ct ad μX12_game (d + 3) [.ref (ad 187), .int a, .int b, .int c] m (Re (-1)) :=
  v_X12_game ((two0 (t17 h (by decide))).to (by rintro _ _ ⟨rfl, rfl⟩; exact ⟨0, rfl, fun _ => rfl, fun h => absurd rfl h⟩))
theorem k_odds {a b : Int32} (h : m.1 187 1 = 0) : Ct ad μX12_odds (d + 3) [.ref (ad 187), .int a, .int b] m (Re (-1)) :=
  v_X12_odds ((two0 (t17 h (by decide))).to (by rintro _ _ ⟨rfl, rfl⟩; exact ⟨0, rfl, fun _ => rfl, fun h => absurd rfl h⟩))
theorem k_play {a b c : Int32} (h : m.1 187 1 = 0) : Ct ad μX12_play (d + 3) [.ref (ad 187), .int a, .int b, .int c] m (Re (-1)) :=
  v_X12_play ((two0 (t17 h (by decide))).to (by rintro _ _ ⟨rfl, rfl⟩; exact ⟨0, rfl, fun _ => rfl, fun h => absurd rfl h⟩))
theorem k_seen {a b c : Int32} (h : m.1 187 1 = 0) : Ct ad μX12_seen (d + 3) [.ref (ad 187), .int a, .int b, .int c] m (Re (-1)) :=
  v_X12_seen ((two0 (t17 h (by decide))).to (by rintro _ _ ⟨rfl, rfl⟩; exact ⟨0, rfl, fun _ => rfl, fun h => absurd rfl h⟩))
theorem k_circle (h : m.1 187 1 = 0) : Ct ad μX12_circle (d + 1) [.ref (ad 187)] m (Re (-1)) :=
  v_X12_circle ⟨fun h1 => absurd h1 (by rw [t17 h (by decide)]; decide), fun _ => rfl⟩
theorem k_undo (h : m.1 187 30 = 0) : Ct ad μX12_undo (d + 1) [.ref (ad 187)] m (Re (-1)) :=
  v_X12_undo ⟨fun h1 => absurd (t17 h (by decide)) h1, fun _ => rfl⟩
theorem k_rest (h : m.1 187 11 = 0) : Ct ad μX12_rest (d + 1) [.ref (ad 187)] m (Re (-1)) :=
  v_X12_rest ⟨fun h1 => absurd (t17 h (by decide)) h1, fun _ => rfl⟩
theorem k_prize (h : m.1 187 1 = 0) : Ct ad μX12_prize (d + 1) [.ref (ad 187)] m (Re (-2)) :=
  v_X12_prize ⟨fun h1 => absurd (t17 h (by decide)) h1, fun _ => rfl⟩
theorem in_any {y0 y2 y4 : Int64} {Q : Option Value → Wm → Prop} (h0 : Q (some (.int 0)) m) (h1 : Q (some (.int 1)) m) : Ct ad μX12_in d [.long y0, .long y2, .long y4] m Q :=
  in_ok.to (by rintro _ _ ⟨rfl, rfl⟩; by_cases hc : y2 ≤ y0 ∧ y0 ≤ y4 <;> simp [hc, h0, h1])
theorem k_rounds {a : Int32} (h : m.1 187 11 = 0) : Ct ad μX12_rounds (d + 1) [.ref (ad 187), .int a] m (Re (-1)) :=
  v_X12_rounds (in_any ⟨0, rfl, fun _ => rfl, fun h => absurd rfl h⟩ ⟨1, rfl, fun h => absurd h (by decide), fun _ => ⟨fun h1 => absurd (t17 h (by decide)) h1, fun _ => rfl⟩⟩)
theorem k_hopes {a : Int32} (h : m.1 187 11 = 0) : Ct ad μX12_hopes (d + 1) [.ref (ad 187), .int a] m (Re (-1)) :=
  v_X12_hopes (in_any ⟨0, rfl, fun _ => rfl, fun h => absurd rfl h⟩ ⟨1, rfl, fun h => absurd h (by decide), fun _ => ⟨fun h1 => absurd (t17 h (by decide)) h1, fun _ => rfl⟩⟩)
theorem k_laws {a : Int32} (h : m.1 187 11 = 0) : Ct ad μX12_laws (d + 1) [.ref (ad 187), .int a] m (Re (-1)) :=
  v_X12_laws (in_any ⟨0, rfl, fun _ => rfl, fun h => absurd rfl h⟩ ⟨1, rfl, fun h => absurd h (by decide), fun _ => ⟨fun h1 => absurd (t17 h (by decide)) h1, fun _ => rfl⟩⟩)
theorem k_even {a : Int32} (h : m.1 187 1 = 0) : Ct ad μX12_even (d + 1) [.ref (ad 187), .int a] m (Re (-1)) :=
  v_X12_even (in_any ⟨0, rfl, fun _ => rfl, fun h => absurd rfl h⟩ ⟨1, rfl, fun h => absurd h (by decide), fun _ => ⟨fun h1 => absurd (t17 h (by decide)) h1, fun _ => rfl⟩⟩)
theorem k_seed {a : Int32} : Ct ad μX12_seed d [.ref (ad 187), .int a] m (Re (m.1 187 8)) := v_X12_seed (by rw [t17 rfl (by decide)])
theorem k_count {w : Int32} : Ct ad μX12_count d [.ref (ad 187), .int w] m (Re (if w = 0 then m.1 187 1 else if w = 1 then m.1 187 0 else if w = 2 then m.1 187 11 else if w = 3 then m.1 187 12 else if w = 4 then m.1 187 30 else if w = 5 then m.1 187 52 else if w = 6 then m.1 187 16 else if w = 7 then m.1 187 14 else if w = 8 then m.1 187 10 else -1)) := by
  refine v_X12_count ⟨?_, ?_, ?_, ?_, ?_, ?_, ?_, ?_, ?_, ?_⟩
  all_goals first
    | (rintro rfl; rfl)
    | (intro h0 h1 h2 h3 h4 h5 h6 h7 h8; simp [Re, h0, h1, h2, h3, h4, h5, h6, h7, h8])
theorem k_table (h : m.1 187 1 = 0) : Ct ad μX12_table (d + 1) [.ref (ad 187)] m (Re 0) := by
  have e : (uI (uI m 187 17 0) 187 16 0).1 187 1 = 0 := h
  exact v_X12_table (g_X12_table_12 ⟨fun _ => by rw [e], fun h1 => absurd (by rw [e]; decide) h1⟩)
theorem k_spread (h : m.1 187 1 = 0) : Ct ad μX12_spread (d + 2) [.ref (ad 187)] m (Re 0) := by
  have e : (uI (uI (uI (uI m 187 17 0) 187 34 0) 187 35 0) 187 16 0).1 187 1 = 0 := h
  exact v_X12_spread (v_X12_spreadNow ⟨fun h1 => absurd h h1, fun _ => ⟨0, rfl, fun _ => rfl, fun h1 => absurd (by rw [e]; decide) h1⟩⟩)
theorem k_kings (h : m.1 187 1 = 0) : Ct ad μX12_kings (d + 1) [.ref (ad 187)] m (Re 0) := by
  refine v_X12_kings (g_X12_kings_11 ⟨fun _ => (tellM (n := 0) rfl (by decide)).to (by rintro _ _ ⟨rfl, rfl⟩; exact ⟨rfl, rfl⟩), fun h1 => absurd (by rw [t17 h (by decide)]; decide) h1⟩)
theorem k_found (h : m.1 187 1 = 0) : Ct ad μX12_found (d + 1) [.ref (ad 187)] m (Re 0) := by
  refine v_X12_found (g_X12_found_14 ⟨fun _ => v_bitCount.to ?_, fun h1 => absurd (by rw [t17 h (by decide)]; decide) h1⟩)
  rintro _ _ ⟨rfl, rfl⟩
  refine ⟨_, rfl, (tellM (n := 0) rfl (by decide)).to ?_⟩
  rintro _ _ ⟨rfl, rfl⟩
  refine ⟨rfl, (tellM (n := 1) rfl (by decide)).to ?_⟩
  rintro _ _ ⟨rfl, rfl⟩
  refine ⟨rfl, (tellM (n := 2) rfl (by decide)).to ?_⟩
  rintro _ _ ⟨rfl, rfl⟩
  exact ⟨rfl, rfl⟩
theorem k_master {a : Int32} (h : m.1 187 1 = 0) (h2 : m.1 187 0 = 2) : Ct ad μX12_master (d + 2) [.ref (ad 187), .int a] m (Re (if a < 0 then -1 else if 2 ≤ a then -1 else -2)) := by
  refine v_X12_master ((art2 (t17 h2 (by decide))).to ?_)
  rintro _ _ ⟨rfl, rfl⟩
  refine ⟨_, rfl, fun hc => ⟨fun h1 => absurd (t17 h (by decide)) h1, fun _ => ?_⟩, fun hc => ?_⟩
  · by_cases h1 : a < 0
    · simp [h1] at hc
    · by_cases h2 : 2 ≤ a
      · simp [h1, h2] at hc
      · simp [Re, h1, h2]
  · by_cases h1 : a < 0
    · simp [Re, h1]
    · by_cases h2 : 2 ≤ a
      · simp [Re, h1, h2]
      · simp [h1, h2] at hc
theorem k_league (h : m.1 187 14 = 0) : Ct ad μX12_league (d + 1) [.ref (ad 187)] m (Re 0) := by
  refine v_X12_league (v_X12_begin (na1 := 80) rfl ⟨rfl, fun h1 => absurd ?_ h1, fun _ => rfl⟩)
  exact t17 h (by decide)
theorem fine0 (h : m.1 187 22 = -1) : Ct ad μX12_fine d [.ref (ad 187)] m (fun r m' => m' = m ∧ r = some (.int 1)) := v_X12_fine ⟨fun h1 => absurd h h1, fun _ => ⟨rfl, rfl⟩⟩
theorem k_rule (h : m.1 187 14 = 0) : Ct ad μX12_rule (d + 1) [.ref (ad 187)] m (Re 0) := by
  have e : (uI m 187 17 0).1 187 14 = 0 := h
  refine v_X12_rule (v_X12_begin (na1 := 80) rfl ⟨rfl, fun _ => ?_, fun h1 => absurd (by rw [e]; decide) h1⟩)
  rw [e]
  exact g_X12_rule_73 ⟨fun _ => rfl, fun h => absurd (by decide) h⟩
theorem k_plan (h : m.1 187 14 = 0) : Ct ad μX12_plan (d + 1) [.ref (ad 187)] m (Re 0) := by
  have e : (uI m 187 17 0).1 187 14 = 0 := h
  refine v_X12_plan (v_X12_begin (na1 := 80) rfl ⟨rfl, fun _ => ?_, fun h1 => absurd ?_ h1⟩)
  · refine g_X12_plan_41 ⟨fun _ => g_X12_plan_238 ⟨fun _ => g_X12_plan_257 ((fine0 rfl).to ?_), fun h1 => absurd ?_ h1⟩, fun h => absurd rfl h⟩
    · rintro _ _ ⟨rfl, rfl⟩
      exact ⟨1, rfl, fun _ => g_X12_plan_274 ⟨fun _ => rfl, fun h => absurd (by decide) h⟩, fun h => absurd h (by decide)⟩
    · show (uI m 187 17 0).1 187 14 ≤ 0
      rw [e]; decide
  · show (uI m 187 17 0).1 187 14 ≤ 0
    rw [e]; decide
theorem k_end {a : Int32} (h : m.1 187 14 = 0) : Ct ad μX12_end (d + 1) [.ref (ad 187), .int a] m (Re (if a < 0 then 0 else if a ≤ 0 then 1 else 0)) := by
  have e : (uI m 187 17 0).1 187 14 = 0 := h
  refine v_X12_end ?_
  rw [e]
  refine (in_i (lo := 0) (hi := 0) rfl rfl).to ?_
  rintro _ _ ⟨rfl, rfl⟩
  refine ⟨_, rfl, fun hc => ?_, fun hc => ?_⟩
  · by_cases h1 : 0 ≤ a ∧ a ≤ 0
    · have h2 : ¬ a < 0 := fun q => (fa_of_lt q).2.1 h1.1
      simp [Re, h1.2, h2]
    · simp [h1] at hc
  · by_cases h1 : 0 ≤ a ∧ a ≤ 0
    · simp [h1] at hc
    · by_cases h2 : a < 0
      · simp [Re, h2]
      · have h3 : ¬ a ≤ 0 := fun q => h1 ⟨fa_of_nlt h2, q⟩
        simp [Re, h2, h3]
end P1M
