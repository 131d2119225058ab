/-! THE START: the new objects -/
section STA
set_option maxRecDepth 100000 in
set_option maxHeartbeats 4000000 in
theorem wt0_1 (a k : Nat) (lo hi : Int) (e : TY a k = some (lo, hi)) : lo ≤ (m0.1 a k).toInt ∧ (m0.1 a k).toInt ≤ hi := by
  unfold TY at e
  by_cases h : a < 146
  · rw [if_pos h] at e
    by_cases h : a < 135
    · rw [if_pos h] at e
      by_cases h : a < 10
      · rw [if_pos h] at e
        by_cases h : a = 0
        · rw [if_pos h] at e
          subst h
          by_cases hk : k = 15
          · rw [if_pos hk] at e
            subst hk
            cases e
            decide +kernel
          · rw [if_neg hk] at e
            by_cases hk : k = 18
            · rw [if_pos hk] at e
              subst hk
              cases e
              decide +kernel
            · rw [if_neg hk] at e
              cases e
        · rw [if_neg h] at e
          by_cases h : a = 1
          · rw [if_pos h] at e
            subst h
            by_cases hk : k = 1
            · rw [if_pos hk] at e
              subst hk
              cases e
              decide +kernel
            · rw [if_neg hk] at e
              cases e
          · rw [if_neg h] at e
            by_cases h : a = 3
            · rw [if_pos h] at e
              subst h
              by_cases hk : k = 3
              · rw [if_pos hk] at e
                subst hk
                cases e
                decide +kernel
              · rw [if_neg hk] at e
                by_cases hk : k = 4
                · rw [if_pos hk] at e
                  subst hk
                  cases e
                  decide +kernel
                · rw [if_neg hk] at e
                  cases e
            · rw [if_neg h] at e
              by_cases h : a = 5
              · rw [if_pos h] at e
                subst h
                by_cases hk : k = 4
                · rw [if_pos hk] at e
                  subst hk
                  cases e
                  decide +kernel
                · rw [if_neg hk] at e
                  by_cases hk : k = 5
                  · rw [if_pos hk] at e
                    subst hk
                    cases e
                    decide +kernel
                  · rw [if_neg hk] at e
                    by_cases hk : k = 6
                    · rw [if_pos hk] at e
                      subst hk
                      cases e
                      decide +kernel
                    · rw [if_neg hk] at e
                      cases e
              · rw [if_neg h] at e
                cases e
      · rw [if_neg h] at e
        by_cases h : a = 10
        · rw [if_pos h] at e
          subst h
          by_cases hk : k = 4
          · rw [if_pos hk] at e
            subst hk
            cases e
            decide +kernel
          · rw [if_neg hk] at e
            by_cases hk : k = 5
            · rw [if_pos hk] at e
              subst hk
              cases e
              decide +kernel
            · rw [if_neg hk] at e
              by_cases hk : k = 6
              · rw [if_pos hk] at e
                subst hk
                cases e
                decide +kernel
              · rw [if_neg hk] at e
                cases e
        · rw [if_neg h] at e
          by_cases h : a = 15
          · rw [if_pos h] at e
            subst h
            by_cases hk : k = 1
            · rw [if_pos hk] at e
              subst hk
              cases e
              decide +kernel
            · rw [if_neg hk] at e
              by_cases hk : k = 2
              · rw [if_pos hk] at e
                subst hk
                cases e
                decide +kernel
              · rw [if_neg hk] at e
                cases e
          · rw [if_neg h] at e
            by_cases h : a = 31
            · rw [if_pos h] at e
              subst h
              by_cases hk : k = 1
              · rw [if_pos hk] at e
                subst hk
                cases e
                decide +kernel
              · rw [if_neg hk] at e
                by_cases hk : k = 2
                · rw [if_pos hk] at e
                  subst hk
                  cases e
                  decide +kernel
                · rw [if_neg hk] at e
                  cases e
            · rw [if_neg h] at e
              by_cases h : a = 134
              · rw [if_pos h] at e
                subst h
                by_cases hk : k = 5
                · rw [if_pos hk] at e
                  subst hk
                  cases e
                  decide +kernel
                · rw [if_neg hk] at e
                  by_cases hk : k = 6
                  · rw [if_pos hk] at e
                    subst hk
                    cases e
                    decide +kernel
                  · rw [if_neg hk] at e
                    cases e
              · rw [if_neg h] at e
                cases e
    · rw [if_neg h] at e
      by_cases h : a < 140
      · rw [if_pos h] at e
        by_cases h : a = 135
        · rw [if_pos h] at e
          subst h
          cases e
          exact (by decide : (0 : Int) ≤ (0 : Int32).toInt ∧ (0 : Int32).toInt ≤ (7 : Int))
        · rw [if_neg h] at e
          by_cases h : a = 136
          · rw [if_pos h] at e
            subst h
            cases e
            exact (by decide : (0 : Int) ≤ (0 : Int32).toInt ∧ (0 : Int32).toInt ≤ (7 : Int))
          · rw [if_neg h] at e
            by_cases h : a = 138
            · rw [if_pos h] at e
              subst h
              cases e
              exact (by decide : (0 : Int) ≤ (0 : Int32).toInt ∧ (0 : Int32).toInt ≤ (48 : Int))
            · rw [if_neg h] at e
              by_cases h : a = 139
              · rw [if_pos h] at e
                subst h
                cases e
                exact (by decide : (0 : Int) ≤ (0 : Int32).toInt ∧ (0 : Int32).toInt ≤ (7 : Int))
              · rw [if_neg h] at e
                cases e
      · rw [if_neg h] at e
        by_cases h : a < 142
        · rw [if_pos h] at e
          by_cases h : a = 140
          · rw [if_pos h] at e
            subst h
            by_cases hk : k = 5
            · rw [if_pos hk] at e
              subst hk
              cases e
              decide +kernel
            · rw [if_neg hk] at e
              by_cases hk : k = 6
              · rw [if_pos hk] at e
                subst hk
                cases e
                decide +kernel
              · rw [if_neg hk] at e
                cases e
          · rw [if_neg h] at e
            by_cases h : a = 141
            · rw [if_pos h] at e
              subst h
              cases e
              exact (by decide : (0 : Int) ≤ (0 : Int32).toInt ∧ (0 : Int32).toInt ≤ (7 : Int))
            · rw [if_neg h] at e
              cases e
        · rw [if_neg h] at e
          by_cases h : a = 142
          · rw [if_pos h] at e
            subst h
            cases e
            exact (by decide : (0 : Int) ≤ (0 : Int32).toInt ∧ (0 : Int32).toInt ≤ (7 : Int))
          · rw [if_neg h] at e
            by_cases h : a = 144
            · rw [if_pos h] at e
              subst h
              cases e
              exact (by decide : (0 : Int) ≤ (0 : Int32).toInt ∧ (0 : Int32).toInt ≤ (48 : Int))
            · rw [if_neg h] at e
              by_cases h : a = 145
              · rw [if_pos h] at e
                subst h
                cases e
                exact (by decide : (0 : Int) ≤ (0 : Int32).toInt ∧ (0 : Int32).toInt ≤ (7 : Int))
              · rw [if_neg h] at e
                cases e
  · rw [if_neg h] at e
    by_cases h : a < 166
    · rw [if_pos h] at e
      by_cases h : a < 155
      · rw [if_pos h] at e
        by_cases h : a = 146
        · rw [if_pos h] at e
          subst h
          cases e
          exact (by decide : (0 : Int) ≤ (0 : Int32).toInt ∧ (0 : Int32).toInt ≤ (7 : Int))
        · rw [if_neg h] at e
          by_cases h : a = 147
          · rw [if_pos h] at e
            subst h
            cases e
            exact (by decide : (0 : Int) ≤ (0 : Int32).toInt ∧ (0 : Int32).toInt ≤ (7 : Int))
          · rw [if_neg h] at e
            by_cases h : a = 151
            · rw [if_pos h] at e
              subst h
              by_cases hk : k = 4
              · rw [if_pos hk] at e
                subst hk
                cases e
                decide +kernel
              · rw [if_neg hk] at e
                cases e
            · rw [if_neg h] at e
              by_cases h : a = 154
              · rw [if_pos h] at e
                subst h
                cases e
                exact (by decide : (0 : Int) ≤ (0 : Int32).toInt ∧ (0 : Int32).toInt ≤ (3000 : Int))
              · rw [if_neg h] at e
                cases e
      · rw [if_neg h] at e
        by_cases h : a = 155
        · rw [if_pos h] at e
          subst h
          cases e
          exact (by decide : (0 : Int) ≤ (0 : Int32).toInt ∧ (0 : Int32).toInt ≤ (8191 : Int))
        · rw [if_neg h] at e
          by_cases h : a = 156
          · rw [if_pos h] at e
            subst h
            by_cases hk : k = 6
            · rw [if_pos hk] at e
              subst hk
              cases e
              decide +kernel
            · rw [if_neg hk] at e
              cases e
          · rw [if_neg h] at e
            by_cases h : a = 163
            · rw [if_pos h] at e
              subst h
              cases e
              exact (by decide : (-1 : Int) ≤ (0 : Int32).toInt ∧ (0 : Int32).toInt ≤ (2999 : Int))
            · rw [if_neg h] at e
              by_cases h : a = 165
              · rw [if_pos h] at e
                subst h
                cases e
                exact ⟨(by decide : (0 : Int) ≤ (0 : Int32).toInt), Int.natCast_nonneg k⟩
              · rw [if_neg h] at e
                cases e
    · rw [if_neg h] at e
      by_cases h : a < 203
      · rw [if_pos h] at e
        by_cases h : a = 166
        · rw [if_pos h] at e
          subst h
          by_cases hk : k = 3
          · rw [if_pos hk] at e
            subst hk
            cases e
            decide +kernel
          · rw [if_neg hk] at e
            cases e
        · rw [if_neg h] at e
          by_cases h : a = 187
          · rw [if_pos h] at e
            subst h
            by_cases hk : k = 0
            · rw [if_pos hk] at e
              subst hk
              cases e
              decide +kernel
            · rw [if_neg hk] at e
              by_cases hk : k = 1
              · rw [if_pos hk] at e
                subst hk
                cases e
                decide +kernel
              · rw [if_neg hk] at e
                by_cases hk : k = 10
                · rw [if_pos hk] at e
                  subst hk
                  cases e
                  decide +kernel
                · rw [if_neg hk] at e
                  by_cases hk : k = 11
                  · rw [if_pos hk] at e
                    subst hk
                    cases e
                    decide +kernel
                  · rw [if_neg hk] at e
                    by_cases hk : k = 14
                    · rw [if_pos hk] at e
                      subst hk
                      cases e
                      decide +kernel
                    · rw [if_neg hk] at e
                      by_cases hk : k = 16
                      · rw [if_pos hk] at e
                        subst hk
                        cases e
                        decide +kernel
                      · rw [if_neg hk] at e
                        by_cases hk : k = 27
                        · rw [if_pos hk] at e
                          subst hk
                          cases e
                          decide +kernel
                        · rw [if_neg hk] at e
                          by_cases hk : k = 28
                          · rw [if_pos hk] at e
                            subst hk
                            cases e
                            decide +kernel
                          · rw [if_neg hk] at e
                            by_cases hk : k = 30
                            · rw [if_pos hk] at e
                              subst hk
                              cases e
                              decide +kernel
                            · rw [if_neg hk] at e
                              by_cases hk : k = 43
                              · rw [if_pos hk] at e
                                subst hk
                                cases e
                                decide +kernel
                              · rw [if_neg hk] at e
                                by_cases hk : k = 45
                                · rw [if_pos hk] at e
                                  subst hk
                                  cases e
                                  decide +kernel
                                · rw [if_neg hk] at e
                                  by_cases hk : k = 46
                                  · rw [if_pos hk] at e
                                    subst hk
                                    cases e
                                    decide +kernel
                                  · rw [if_neg hk] at e
                                    by_cases hk : k = 52
                                    · rw [if_pos hk] at e
                                      subst hk
                                      cases e
                                      decide +kernel
                                    · rw [if_neg hk] at e
                                      cases e
          · rw [if_neg h] at e
            by_cases h : a = 194
            · rw [if_pos h] at e
              subst h
              by_cases hk : k % 4 < 2
              · rw [if_pos hk] at e
                cases e
                exact (by decide : (0 : Int) ≤ (0 : Int32).toInt ∧ (0 : Int32).toInt ≤ (7 : Int))
              · rw [if_neg hk] at e
                cases e
            · rw [if_neg h] at e
              by_cases h : a = 199
              · rw [if_pos h] at e
                subst h
                by_cases hk : k % 4 < 2
                · rw [if_pos hk] at e
                  cases e
                  exact (by decide : (0 : Int) ≤ (0 : Int32).toInt ∧ (0 : Int32).toInt ≤ (7 : Int))
                · rw [if_neg hk] at e
                  cases e
              · rw [if_neg h] at e
                cases e
      · rw [if_neg h] at e
        by_cases h : a < 208
        · rw [if_pos h] at e
          by_cases h : a = 203
          · rw [if_pos h] at e
            subst h
            cases e
            exact (by decide : (0 : Int) ≤ (0 : Int32).toInt ∧ (0 : Int32).toInt ≤ (8 : Int))
          · rw [if_neg h] at e
            by_cases h : a = 207
            · rw [if_pos h] at e
              subst h
              cases e
              exact ⟨(by decide : (0 : Int) ≤ (0 : Int32).toInt), Int.natCast_nonneg k⟩
            · rw [if_neg h] at e
              cases e
        · rw [if_neg h] at e
          by_cases h : a = 208
          · rw [if_pos h] at e
            subst h
            cases e
            exact (by decide : (-1 : Int) ≤ (0 : Int32).toInt ∧ (0 : Int32).toInt ≤ (2999 : Int))
          · rw [if_neg h] at e
            by_cases h : a = 210
            · rw [if_pos h] at e
              subst h
              cases e
              exact (by decide : (0 : Int) ≤ (0 : Int32).toInt ∧ (0 : Int32).toInt ≤ (3000 : Int))
            · rw [if_neg h] at e
              by_cases h : a = 213
              · rw [if_pos h] at e
                subst h
                by_cases hk : k % 3 < 2
                · rw [if_pos hk] at e
                  cases e
                  exact (by decide : (0 : Int) ≤ (0 : Int32).toInt ∧ (0 : Int32).toInt ≤ (7 : Int))
                · rw [if_neg hk] at e
                  cases e
              · rw [if_neg h] at e
                cases e
theorem SS_r33 : SS 33 6 := by
  refine ⟨St_33, fun j k hj => ?_⟩
  have h : j = 0 ∨ j = 1 ∨ j = 2 ∨ j = 3 ∨ j = 4 := by omega
  rcases h with rfl | rfl | rfl | rfl | rfl
  all_goals exact ⟨rfl, rfl⟩
theorem SS_r38 : SS 38 6 := by
  refine ⟨St_38, fun j k hj => ?_⟩
  have h : j = 0 ∨ j = 1 ∨ j = 2 ∨ j = 3 ∨ j = 4 := by omega
  rcases h with rfl | rfl | rfl | rfl | rfl
  all_goals exact ⟨rfl, rfl⟩
theorem SS_r43 : SS 43 6 := by
  refine ⟨St_43, fun j k hj => ?_⟩
  have h : j = 0 ∨ j = 1 ∨ j = 2 ∨ j = 3 ∨ j = 4 := by omega
  rcases h with rfl | rfl | rfl | rfl | rfl
  all_goals exact ⟨rfl, rfl⟩
theorem SS_r48 : SS 48 6 := by
  refine ⟨St_48, fun j k hj => ?_⟩
  have h : j = 0 ∨ j = 1 ∨ j = 2 ∨ j = 3 ∨ j = 4 := by omega
  rcases h with rfl | rfl | rfl | rfl | rfl
  all_goals exact ⟨rfl, rfl⟩
theorem SS_r53 : SS 53 6 := by
  refine ⟨St_53, fun j k hj => ?_⟩
  have h : j = 0 ∨ j = 1 ∨ j = 2 ∨ j = 3 ∨ j = 4 := by omega
  rcases h with rfl | rfl | rfl | rfl | rfl
  all_goals exact ⟨rfl, rfl⟩
theorem SS_r58 : SS 58 6 := by
  refine ⟨St_58, fun j k hj => ?_⟩
  have h : j = 0 ∨ j = 1 ∨ j = 2 ∨ j = 3 ∨ j = 4 := by omega
  rcases h with rfl | rfl | rfl | rfl | rfl
  all_goals exact ⟨rfl, rfl⟩
theorem SS_r63 : SS 63 6 := by
  refine ⟨St_63, fun j k hj => ?_⟩
  have h : j = 0 ∨ j = 1 ∨ j = 2 ∨ j = 3 ∨ j = 4 := by omega
  rcases h with rfl | rfl | rfl | rfl | rfl
  all_goals exact ⟨rfl, rfl⟩
theorem SS_r68 : SS 68 6 := by
  refine ⟨St_68, fun j k hj => ?_⟩
  have h : j = 0 ∨ j = 1 ∨ j = 2 ∨ j = 3 ∨ j = 4 := by omega
  rcases h with rfl | rfl | rfl | rfl | rfl
  all_goals exact ⟨rfl, rfl⟩
theorem SS_r73 : SS 73 6 := by
  refine ⟨St_73, fun j k hj => ?_⟩
  have h : j = 0 ∨ j = 1 ∨ j = 2 ∨ j = 3 ∨ j = 4 := by omega
  rcases h with rfl | rfl | rfl | rfl | rfl
  all_goals exact ⟨rfl, rfl⟩
theorem SS_r78 : SS 78 6 := by
  refine ⟨St_78, fun j k hj => ?_⟩
  have h : j = 0 ∨ j = 1 ∨ j = 2 ∨ j = 3 ∨ j = 4 := by omega
  rcases h with rfl | rfl | rfl | rfl | rfl
  all_goals exact ⟨rfl, rfl⟩
theorem SS_r83 : SS 83 6 := by
  refine ⟨St_83, fun j k hj => ?_⟩
  have h : j = 0 ∨ j = 1 ∨ j = 2 ∨ j = 3 ∨ j = 4 := by omega
  rcases h with rfl | rfl | rfl | rfl | rfl
  all_goals exact ⟨rfl, rfl⟩
theorem SS_r88 : SS 88 6 := by
  refine ⟨St_88, fun j k hj => ?_⟩
  have h : j = 0 ∨ j = 1 ∨ j = 2 ∨ j = 3 ∨ j = 4 := by omega
  rcases h with rfl | rfl | rfl | rfl | rfl
  all_goals exact ⟨rfl, rfl⟩
theorem SS_r93 : SS 93 6 := by
  refine ⟨St_93, fun j k hj => ?_⟩
  have h : j = 0 ∨ j = 1 ∨ j = 2 ∨ j = 3 ∨ j = 4 := by omega
  rcases h with rfl | rfl | rfl | rfl | rfl
  all_goals exact ⟨rfl, rfl⟩
theorem SS_r98 : SS 98 6 := by
  refine ⟨St_98, fun j k hj => ?_⟩
  have h : j = 0 ∨ j = 1 ∨ j = 2 ∨ j = 3 ∨ j = 4 := by omega
  rcases h with rfl | rfl | rfl | rfl | rfl
  all_goals exact ⟨rfl, rfl⟩
theorem SS_r103 : SS 103 6 := by
  refine ⟨St_103, fun j k hj => ?_⟩
  have h : j = 0 ∨ j = 1 ∨ j = 2 ∨ j = 3 ∨ j = 4 := by omega
  rcases h with rfl | rfl | rfl | rfl | rfl
  all_goals exact ⟨rfl, rfl⟩
theorem SS_r108 : SS 108 6 := by
  refine ⟨St_108, fun j k hj => ?_⟩
  have h : j = 0 ∨ j = 1 ∨ j = 2 ∨ j = 3 ∨ j = 4 := by omega
  rcases h with rfl | rfl | rfl | rfl | rfl
  all_goals exact ⟨rfl, rfl⟩
theorem SS_r113 : SS 113 6 := by
  refine ⟨St_113, fun j k hj => ?_⟩
  have h : j = 0 ∨ j = 1 ∨ j = 2 ∨ j = 3 ∨ j = 4 := by omega
  rcases h with rfl | rfl | rfl | rfl | rfl
  all_goals exact ⟨rfl, rfl⟩
theorem SS_r118 : SS 118 6 := by
  refine ⟨St_118, fun j k hj => ?_⟩
  have h : j = 0 ∨ j = 1 ∨ j = 2 ∨ j = 3 ∨ j = 4 := by omega
  rcases h with rfl | rfl | rfl | rfl | rfl
  all_goals exact ⟨rfl, rfl⟩
theorem SS_r123 : SS 123 6 := by
  refine ⟨St_123, fun j k hj => ?_⟩
  have h : j = 0 ∨ j = 1 ∨ j = 2 ∨ j = 3 ∨ j = 4 := by omega
  rcases h with rfl | rfl | rfl | rfl | rfl
  all_goals exact ⟨rfl, rfl⟩
theorem SS_r128 : SS 128 6 := by
  refine ⟨St_128, fun j k hj => ?_⟩
  have h : j = 0 ∨ j = 1 ∨ j = 2 ∨ j = 3 ∨ j = 4 := by omega
  rcases h with rfl | rfl | rfl | rfl | rfl
  all_goals exact ⟨rfl, rfl⟩
theorem SS_rn0 : ∀ k, k < 20 → SS (33 + 5 * k) 6 := by
  intro k hk
  have h : k = 0 ∨ k = 1 ∨ k = 2 ∨ k = 3 ∨ k = 4 ∨ k = 5 ∨ k = 6 ∨ k = 7 ∨ k = 8 ∨ k = 9 ∨ k = 10 ∨ k = 11 ∨ k = 12 ∨ k = 13 ∨ k = 14 ∨ k = 15 ∨ k = 16 ∨ k = 17 ∨ k = 18 ∨ k = 19 := by omega
  rcases h with rfl | rfl | rfl | rfl | rfl | rfl | rfl | rfl | rfl | rfl | rfl | rfl | rfl | rfl | rfl | rfl | rfl | rfl | rfl | rfl
  · exact SS_r33
  · exact SS_r38
  · exact SS_r43
  · exact SS_r48
  · exact SS_r53
  · exact SS_r58
  · exact SS_r63
  · exact SS_r68
  · exact SS_r73
  · exact SS_r78
  · exact SS_r83
  · exact SS_r88
  · exact SS_r93
  · exact SS_r98
  · exact SS_r103
  · exact SS_r108
  · exact SS_r113
  · exact SS_r118
  · exact SS_r123
  · exact SS_r128
set_option maxRecDepth 100000 in
theorem ring0 : ∀ k : Fin 20, m0.2.2 32 k.val = some (33 + 5 * k.val) := by decide +kernel
set_option maxRecDepth 100000 in
theorem kept0 : ∀ k : Fin 2, m0.2.2 133 k.val = some (173 + 7 * k.val) := by decide +kernel
set_option maxRecDepth 100000 in
theorem rf0 : RF m0.2.2 := by
  refine ⟨⟨5, by decide +kernel, Or.inl rfl⟩, ⟨10, by decide +kernel, Or.inr rfl⟩, ⟨134, by decide +kernel, Or.inl rfl⟩, ⟨140, by decide +kernel, Or.inr rfl⟩, fun k hk => ⟨33 + 5 * k, ring0 ⟨k, hk⟩, SS_rn0 k hk⟩, fun k hk => ⟨173 + 7 * k, kept0 ⟨k, hk⟩, ?_⟩, fun k hk => ring0 ⟨k, hk⟩, fun k hk => kept0 ⟨k, hk⟩⟩
  omega
set_option maxRecDepth 100000 in
theorem iv_m0 : IV m0 := by
  have z : (m0.1 1 1).toInt = 0 := by decide +kernel
  refine ⟨Or.inl ?_, ⟨?_, fun k hk => absurd hk (by omega)⟩, ?_, ?_, ?_⟩
  · decide +kernel
  · decide +kernel
  · decide +kernel
  · decide +kernel
  · decide +kernel
set_option maxRecDepth 100000 in
theorem kb_m0 : KB 0 m0 := by
  have l0 : ∀ k : Fin 5, m0.1 4 k.val = m0.1 193 k.val := by decide +kernel
  have q1 : ∀ i : Fin 2, m0.1 (173 + 7 * i.val) 4 = 0 := by decide +kernel
  have q2 : ∀ i : Fin 2, m0.1 215 i.val = 0 := by decide +kernel
  have q3 : ∀ i : Fin 2, m0.1 216 i.val = 0 := by decide +kernel
  refine ⟨⟨134, 140, ⟨by decide +kernel, by decide +kernel, Or.inl ⟨rfl, rfl⟩⟩, 0, 0, 0, (fun _ => 0), by decide +kernel, by decide, by decide +kernel, by decide +kernel, by decide +kernel, by decide +kernel, by decide, by decide, fun _ => rfl, fun j hj => absurd hj (Nat.not_lt_zero j), ⟨rfl, fun ρ hρ => by omega, Nat.le_refl _⟩, fun ρ hρ => absurd hρ (Nat.not_lt_zero ρ)⟩, fun k hk => l0 ⟨k, hk⟩, 0, Nat.le_refl _, by decide +kernel, fun i hi => ⟨⟨0, Nat.le_refl _, q3 ⟨i, hi⟩⟩, ⟨fun h => absurd (q1 ⟨i, hi⟩) h, fun h => absurd (q2 ⟨i, hi⟩) h.1⟩, fun h => absurd (q1 ⟨i, hi⟩) h⟩⟩
set_option maxRecDepth 100000 in
theorem ruk_m0 : RuK m0 := ⟨5, 10, ⟨by decide +kernel, by decide +kernel, Or.inl ⟨rfl, rfl⟩⟩, [], 0, ⟨by decide +kernel, fun i hi => absurd hi (Nat.not_lt_zero i), by decide⟩, by decide +kernel, by decide, Or.inl ⟨rfl, rfl⟩⟩
set_option maxRecDepth 100000 in
theorem nI_small {x : Int32} (h0 : 0 ≤ x.toInt) : x = nI x.toNatClampNeg := by
  obtain ⟨j, hj, rfl⟩ := zn_of h0
  rw [nI_clamp hj]
set_option maxRecDepth 100000 in
theorem kg_m0 : KG m0 := by
  have z22 : ∀ k : Fin 32, m0.1 22 k.val = 0 := by decide +kernel
  have ar : m0.1 3 4 = m0.1 187 0 := by decide +kernel
  have ar0 : 0 ≤ (m0.1 187 0).toInt ∧ (m0.1 187 0).toInt ≤ 4 := by decide +kernel
  have n0 : m0.1 3 3 = nI 0 := by decide +kernel
  have n1 : m0.1 187 1 = nI 0 := by decide +kernel
  have lu : m0.1 187 8 = m0.1 21 4 := by decide +kernel
  have lw : ∀ k : Fin 5, m0.1 193 k.val = m0.1 4 k.val := by decide +kernel
  have il : m0.1 3 5 = 0 := by decide +kernel
  have u1 : m0.1 31 1 = 0 := by decide +kernel
  have u2 : m0.1 187 30 = 0 := by decide +kernel
  have p1 : ∀ i : Fin 2, m0.1 (173 + 7 * i.val) 4 = 0 := by decide +kernel
  have x1 : m0.1 0 11 = nI 0 := by decide +kernel
  have x2 : m0.1 187 12 = nI 0 := by decide +kernel
  have x3 : m0.1 187 11 = nI 0 := by decide +kernel
  have e0 : m0.1 187 0 = nI (m0.1 187 0).toNatClampNeg := nI_small ar0.1
  have e4 : (m0.1 187 0).toNatClampNeg ≤ 4 := by
    have := tn ar0.1
    omega
  obtain ⟨P, Q, hR, cl, z, hX, h27, hz, hv⟩ := ruk_m0
  refine ⟨(m0.1 22, m0.1 23, m0.1 24, m0.1 25, m0.1 21 4), (0, (m0.1 187 0).toNatClampNeg, m0.1 4, (fun _ => false), m0.1 200, z), [], ⟨fun _ _ => rfl, fun _ _ => rfl, fun _ _ => rfl, fun _ _ => rfl, rfl⟩, ⟨fun k hk => absurd hk (Nat.not_lt_zero k), fun k hk => absurd hk (Nat.not_lt_zero k), fun k hk => absurd hk (Nat.not_lt_zero k), fun k hk => absurd hk (Nat.not_lt_zero k), lu⟩, ⟨n0, ar.trans e0, Nat.zero_le _, e4, fun _ _ => rfl, ⟨fun s hs => ?_, fun _ _ => rfl⟩, P, Q, hR, cl, hX, hv⟩, ⟨n1, e0, Nat.zero_le _, e4, fun k hk => lw ⟨k, hk⟩, fun s hs => absurd hs (Nat.not_lt_zero s), h27, hz, fun _ _ => rfl⟩, UnC.wt ⟨wt0_1, rf0⟩ u1, UnM.wt u2, fun k _ h2 => z22 ⟨k, h2⟩, fun j hj => absurd hj (Nat.not_lt_zero j), fun i hi h => absurd (p1 ⟨i, hi⟩) h, ⟨0, 0, x1, x2, x3, by decide, Or.inl rfl⟩⟩
  rw [il]
  exact b_0 s
theorem inv_m0 : InvK (KX KG 0) m0 := ⟨⟨wt0_1, rf0⟩, iv_m0, kg_m0, kb_m0⟩
theorem law_run {ad : Nat → Nat} {sb Ls : Nat} {xs : Nat → Int32} (hL : Ls ≤ 3072) : AWl LAY ad (EX (SX sb Ls xs) 513 3078 LAY) μL_law (1747 + 301) (fun v _ => v = some (.int 1)) 23 [(0, .ref sb), (1, .ref (ad 0)), (2, .ref (ad 187)), (3, .ref (ad 217)), (4, .int 0)] [] m0 := by
  have := law_loop (ad := ad) (sb := sb) (xs := xs) (d := 1747) (n0 := Ls / 6) (Inv := fun c => InvK (KX KG c)) hL rfl (fun k hk => all_ops (by omega)) (Ls / 6) 0 m0 (by omega) inv_m0
  exact aw_drop (by omega) (by omega) this
end STA
