/-! THE SEARCH OF THE CLASS: states in its places, a game's mark of having taught -/
/-- states as they lie in the class -/
def SC (m : Wm) (S : SSt) : Prop := TBC m (nS S) ∧ ∀ i, i < nS S → m.2.1 152 i = lN (pkN (kS S i) 0 16) ∧ m.2.1 153 i = lN (pkN (kS S i) 16 16) ∧ SR7 (kS S i)
def SDp (m : Wm) (S : SSt) : Prop := ∀ i, i < nS S → m.1 165 i = nI (dS S i) ∧ dS S i ≤ i
/-- what a look-up of f comes to -/
def LkQ (m : Wm) (S : SSt) (f : Nat → Int32) (r : Option Value) (m' : Wm) : Prop := WT m' ∧ Fx (RS [10]) m m' ∧
  ((∃ i, i < nS S ∧ EQ32 (kS S i) f ∧ r = some (.int (nI i)) ∧ SC m' S ∧ m'.1 151 5 = 0) ∨
   (¬ InS S f ∧ ¬ nS S < 3000 ∧ r = some (.int (-1)) ∧ SC m' S) ∨
   (¬ InS S f ∧ nS S < 3000 ∧ r = some (.int (nI (nS S))) ∧ m'.1 151 5 = 1 ∧ ∀ q, SC m' (adS f q S)))
theorem G11 : GR 11 := Or.inr (Or.inr (Or.inr (Or.inr (Or.inl rfl))))
theorem G12 : GR 12 := Or.inr (Or.inr (Or.inr (Or.inr (Or.inr (Or.inl rfl)))))
/-- one side's skills taken from f' -/
def mixS (s : Nat) (f f' : Nat → Int32) : Nat → Int32 := fun k => if k / 4 = s then f' k else f k
section SCS
variable {ad : Nat → Nat} {d b ρ t a e : Nat} {m m' m0 : Wm} {g : GS} {v : EV} {p : PSt} {S : SSt} {R : List Nat} {f f' : Nat → Int32}
theorem SC.fx (h : SC m S) (F : Fx (RS R) m m') (e : R.elem 10 = false) : SC m' S := by
  obtain ⟨h1, h2⟩ := h
  refine ⟨h1.fx F e, fun i hi => ?_⟩
  rw [(fx_cl (a := 152) (ρ := 10) F (fun _ => rfl) e).2, (fx_cl (a := 153) (ρ := 10) F (fun _ => rfl) e).2]
  exact h2 i hi
theorem SDp.fx (h : SDp m S) (F : Fx (RS R) m m') (e : R.elem 58 = false) : SDp m' S := fun i hi => ⟨(F.at (nRS (ρ := 58) e rfl)).trans (h i hi).1, (h i hi).2⟩
theorem SC.n (h : SC m S) : nS S ≤ 3000 := h.1.2.1
theorem SC.c4 (h : SC m S) : m.1 151 4 = nI (nS S) := h.1.1.2.1
theorem SC.look {r : Option Value} (h : SC m S) (hf : SR7 f) (q : PtQ m (nS S) (lN (pkN f 0 16)) (lN (pkN f 16 16)) r m') : LkQ m S f r m' := by
  obtain ⟨w, F, hk, q⟩ := q
  have nin : (∀ i, i < nS S → ¬ (m.2.1 152 i = lN (pkN f 0 16) ∧ m.2.1 153 i = lN (pkN f 16 16))) → ¬ InS S f := fun q ⟨i, hi, e⟩ => by
    obtain ⟨a1, a2, a3⟩ := h.2 i hi
    obtain ⟨e1, e2⟩ := pk_e32 e
    exact q i hi ⟨by rw [a1, e1], by rw [a2, e2]⟩
  have old : TBC m' (nS S) → SC m' S := fun t => ⟨t, fun i hi => by rw [(hk i hi).1, (hk i hi).2]; exact h.2 i hi⟩
  refine ⟨w, F, ?_⟩
  rcases q with ⟨i, hi, q1, q2, rfl, q3, q4⟩ | ⟨q1, q2, rfl, q3⟩ | ⟨q1, q2, rfl, q3, q4, q5, q6⟩
  · obtain ⟨a1, a2, a3⟩ := h.2 i hi
    rw [a1] at q1
    rw [a2] at q2
    exact Or.inl ⟨i, hi, pk_inj a3 hf (lN_inj (pk_48 a3 (by decide)) (pk_48 hf (by decide)) q1) (lN_inj (pk_48 a3 (by decide)) (pk_48 hf (by decide)) q2), rfl, old q3, q4⟩
  · exact Or.inr (Or.inl ⟨nin q1, by omega, rfl, old q3⟩)
  · refine Or.inr (Or.inr ⟨nin q1, q2, rfl, q4, fun q => ⟨q3, fun i hi => ?_⟩⟩)
    rw [adS_n] at hi
    by_cases c : i = nS S
    · subst c
      rw [adS_kn]
      exact ⟨q5, q6, hf⟩
    · rw [adS_k (by omega), (hk i (by omega)).1, (hk i (by omega)).2]
      exact h.2 i (by omega)
theorem or4 {j : Nat} (hj : j < 4) {o : Nat} (ho : o ≤ 16) (h7 : SR7 f) : lN (pkN f o (4 * j)) ||| lN (pkN f (o + 4 * j) 4 * 2 ^ (12 * j)) = lN (pkN f o (4 * (j + 1))) := by
  have e8 : (8 : Nat) ^ (4 * j) = 2 ^ (12 * j) := by rw [show 12 * j = 3 * (4 * j) by omega, Nat.pow_mul 2 3]
  have h1 := spk_lt (f := f) (o := o) (4 * j) (h7.d (by omega))
  have h2 := spk_lt (f := f) (o := o) (4 * (j + 1)) (h7.d (by omega))
  have h3 : (8 : Nat) ^ (4 * (j + 1)) ≤ 8 ^ 16 := Nat.pow_le_pow_right (by decide) (by omega)
  have e := pk_add (f := f) (o := o) (4 * j) 4
  rw [show 4 * j + 4 = 4 * (j + 1) by omega] at e
  rw [p816] at h3
  rw [e8] at e h1
  rw [g_or' (k := 12 * j) rfl h1 (by rw [← e]; omega), ← e]
theorem putSkC (w : WT m) (hb : SS b ρ) (h : HC b m (f, p)) (h7 : SR7 f) (hS : SC m S) : Ct ad μX9_putSkillsOf (d + 2) [.ref (ad 151), .ref (ad b)] m (LkQ m S f) := by
  have L : ∀ n j : Nat, j + n = 4 → AW ad E0 μX9_putSkillsOf (d + 2) (LkQ m S f) 8 [(0, .ref (ad 151)), (1, .ref (ad b)), (2, .long (lN (pkN f 0 (4 * j)))), (4, .long (lN (pkN f 16 (4 * j)))), (6, .int (nI j))] [] m := by
    intro n
    induction n with
    | zero =>
      intro j hj
      obtain rfl : j = 4 := hj
      refine g_X9_putSkillsOf_8 (d := d + 1) hb.1 ⟨fun _ => (putX (d := d + 1) w hS.1).to ?_, fun c => absurd (by decide) c⟩
      rintro r m1 hq
      have q := hS.look h7 hq
      have : ∃ x : Int32, r = some (.int x) := by
        rcases q.2.2 with ⟨i, -, -, e, -⟩ | ⟨-, -, e, -⟩ | ⟨-, -, e, -⟩ <;> exact ⟨_, e⟩
      obtain ⟨x, rfl⟩ := this
      exact ⟨x, rfl, q⟩
    | succ n ih =>
      intro j hj
      refine g_X9_putSkillsOf_8 (d := d + 1) hb.1 ⟨fun c => absurd ((le_l 4 4 rfl (by decide) (by omega)).mp c) (by omega), fun _ => (packC (d := d) hb h h7 (s := j) (by omega)).to ?_⟩
      rintro _ m1 ⟨eq, rfl⟩
      obtain rfl := eq.symm
      refine ⟨_, rfl, ?_⟩
      rw [add_l 4 4 rfl]
      refine (packC (d := d) hb h h7 (s := j + 4) (by omega)).to ?_
      rintro _ m1 ⟨eq, rfl⟩
      obtain rfl := eq.symm
      refine ⟨_, rfl, ?_⟩
      have o1 := or4 (j := j) (by omega) (o := 0) (by decide) h7
      have o2 := or4 (j := j) (by omega) (o := 16) (by decide) h7
      rw [Nat.zero_add] at o1
      rw [show j % 4 = j by omega, show (j + 4) % 4 = j by omega, show 4 * (j + 4) = 16 + 4 * j by omega, o1, o2, nI_1]
      exact ih (j + 1) (by omega)
  exact v_X9_putSkillsOf (d := d + 1) hb.1 (L 4 0 rfl)
theorem unpackAllC (w : WT m) (hS : SC m S) {i : Nat} (hi : i < nS S) (h : HC 157 m (f, p)) (hn : m.1 3 3 = nI e) (n8 : e ≤ 8) (hz : ∀ k, 4 * e ≤ k → k < 32 → f k = kS S i k) : Ct ad μX6_unpackAll (d + 2) [.ref (ad 156), .ref (ad 3), .int (nI i)] m (fun r m' => r = none ∧ WT m' ∧ Fx (RS [2, 11]) m m' ∧ HC 157 m' (kS S i, p)) := by
  obtain ⟨a1, a2, a3⟩ := hS.2 i hi
  have hN := hS.n
  have L : ∀ (n s : Nat) (m1 : Wm), s + n = e → WT m1 → Fx (RS [2, 11]) m m1 → HC 157 m1 ((fun k => if k < 4 * s then kS S i k else f k), p) → AW ad E0 μX6_unpackAll (d + 2) (fun r m' => r = none ∧ WT m' ∧ Fx (RS [2, 11]) m m' ∧ HC 157 m' (kS S i, p)) 2 [(0, .ref (ad 156)), (1, .ref (ad 3)), (2, .int (nI i)), (3, .int (nI s))] [] m1 := by
    intro n
    induction n with
    | zero =>
      intro s m1 hs w1 f1 h1
      obtain rfl : s = e := hs
      have e33 : m1.1 3 3 = nI s := (f1.at (nRS (ρ := 41) rfl rfl)).trans hn
      refine g_X6_unpackAll_2 (d := d + 1) ⟨fun _ => ⟨rfl, w1, f1, h1.cg (fun k hk => ?_) rfl⟩, fun c => absurd (by rw [e33]; exact (nI_leI (by omega) (by omega)).mpr (Nat.le_refl _)) c⟩
      show kS S i k = if k < 4 * s then kS S i k else f k
      by_cases c : k < 4 * s
      · rw [if_pos c]
      · rw [if_neg c]
        exact (hz k (by omega) hk).symm
    | succ n ih =>
      intro s m1 hs w1 f1 h1
      have e33 : m1.1 3 3 = nI e := (f1.at (nRS (ρ := 41) rfl rfl)).trans hn
      have c52 := (fx_cl (a := 152) (ρ := 10) f1 (fun _ => rfl) rfl).2
      have c53 := (fx_cl (a := 153) (ρ := 10) f1 (fun _ => rfl) rfl).2
      refine g_X6_unpackAll_2 (d := d + 1) ⟨fun c => absurd (by rw [e33] at c; exact (nI_leI (by omega) (by omega)).mp c) (by omega), fun _ => (unpackC (d := d) (f := kS S i) (p := p) w1 SS_157 G11 (by rw [c52]; exact a1) (by rw [c53]; exact a2) a3 (by omega) (s := s) (by omega) h1).to ?_⟩
      rintro _ m2 ⟨rfl, w2, f2, h2⟩
      rw [nI_1]
      refine ⟨rfl, ih (s + 1) m2 (by omega) w2 (f1.tr f2 (fun _ _ h => h)) (h2.cg (fun k hk => ?_) rfl)⟩
      show (if k < 4 * (s + 1) then kS S i k else f k) = (if 4 * s ≤ k ∧ k < 4 * s + 4 then kS S i k else (if k < 4 * s then kS S i k else f k))
      by_cases c : k < 4 * s
      · rw [if_pos (by omega), if_neg (by omega), if_pos c]
      · by_cases c2 : k < 4 * s + 4
        · rw [if_pos (by omega), if_pos (by omega)]
        · rw [if_neg (by omega), if_neg (by omega), if_neg c]
  refine v_X6_unpackAll (d := d + 1) (L e 0 m (by omega) w Fx.rf (h.cg (fun k _ => ?_) rfl))
  show (if k < 4 * 0 then kS S i k else f k) = f k
  rw [if_neg (by omega)]
theorem mix7 {s : Nat} (h : SR7 f) (h' : SR7 f') : SR7 (mixS s f f') := fun k hk => by
  unfold mixS
  split
  · exact h' k hk
  · exact h k hk
theorem half_mix {s u : Nat} (hs : s < 8) (hu : s / 4 = u) (h : SR7 f) (h' : SR7 f') : lN ((pkN f (16 * u) 16) &&& (2 ^ 64 - 1 - 4095 * 2 ^ (12 * (s % 4)))) ||| lN (pkN f' (4 * s) 4 * 2 ^ (12 * (s % 4))) = lN (pkN (mixS s f f') (16 * u) 16) := by
  have hM := pk_mask (s % 4) (by omega)
  have h48 := pk_48 h (o := 16 * u) (by omega)
  have hm := mix7 (s := s) h h'
  have e4 : pkN f' (4 * s) 4 = pkN (mixS s f f') (16 * u + 4 * (s % 4)) 4 := by
    rw [show 16 * u + 4 * (s % 4) = 4 * s by omega]
    refine pk_ch 4 (fun k hk => ?_)
    unfold mixS
    rw [if_pos (by omega)]
  have h4 : pkN f' (4 * s) 4 < 4096 := by
    have := spk_lt (f := f') (o := 4 * s) 4 (h'.d (by omega))
    have e : (8 : Nat) ^ 4 = 4096 := by decide
    omega
  have h36 : (2 : Nat) ^ (12 * (s % 4)) ≤ 2 ^ 36 := Nat.pow_le_pow_right (by decide) (by omega)
  have h5 : pkN f' (4 * s) 4 * 2 ^ (12 * (s % 4)) ≤ 4096 * 2 ^ 36 := Nat.mul_le_mul (by omega) h36
  have e36 : 4096 * 2 ^ 36 = 281474976710656 := by decide
  have ha : (pkN f (16 * u) 16 &&& (2 ^ 64 - 1 - 4095 * 2 ^ (12 * (s % 4)))) ≤ pkN f (16 * u) 16 := Nat.and_le_left
  rw [wb_or (by omega) (by omega), e4, pk_put h hm (by omega) (by omega) (fun k hk hj => ?_) hM.2]
  unfold mixS
  rw [if_neg (by omega)]
set_option maxHeartbeats 1000000 in
theorem halfC (hA : m.2.1 152 t = lN (pkN f 0 16)) (hB : m.2.1 153 t = lN (pkN f 16 16)) (h7 : SR7 f) (h7' : SR7 f') (ht : t < 3000) (h : HC 157 m (f', p)) (hs : ∀ k, k < 32 → k / 4 ≠ a → k / 4 ≠ e → f k = f' k) (ha : a < 8) (he : e < 8) {u : Nat} (hu : u < 2) :
    Ct ad μX6_halfAfter (d + 2) [.ref (ad 156), .int (nI t), .int (nI a), .int (nI e), .int (nI u)] m (fun r m' => m' = m ∧ r = some (.long (lN (pkN f' (16 * u) 16)))) := by
  have hm := mix7 (s := a) h7 h7'
  have fl : ∀ s, s < 8 → (if nI s < (4 : Int32) then (0 : Int32) else 1) = nI (s / 4) := fun s hs => by
    by_cases c : nI s < (4 : Int32)
    · rw [if_pos c]
      have := (l_lt 4 4 rfl (by decide) (by omega)).mp c
      rw [show s / 4 = 0 by omega]
      rfl
    · rw [if_neg c]
      have : ¬ s < 4 := fun z => c ((l_lt 4 4 rfl (by decide) (by omega)).mpr z)
      rw [show s / 4 = 1 by omega]
      rfl
  have K70 : AW ad E0 μX6_halfAfter (d + 2) (fun r m' => m' = m ∧ r = some (.long (lN (pkN f' (16 * u) 16)))) 70 [(0, .ref (ad 156)), (3, .int (nI e)), (4, .int (nI u)), (5, .long (lN (pkN (mixS a f f') (16 * u) 16)))] [.int (nI (e / 4))] m := by
    refine g_X6_halfAfter_70 (d := d + 1) ⟨fun c => ⟨rfl, ?_⟩, fun c => (withC (d := d + 1) he (pk_48 hm (o := 16 * u) (by omega))).to ?_⟩
    · have hne : e / 4 ≠ u := fun z => c (by rw [z])
      refine congrArg (fun z => some (Value.long (lN z))) (pk_ch 16 (fun k hk => ?_))
      unfold mixS
      by_cases q : (16 * u + k) / 4 = a
      · rw [if_pos q]
      · rw [if_neg q]
        exact hs _ (by omega) q (by omega)
    · have hue : e / 4 = u := (nI_eq (by omega) (by omega)).mp c
      rintro _ m1 ⟨eq, rfl⟩
      obtain rfl := eq.symm
      refine ⟨_, rfl, (packC (d := d) SS_157 h h7' he).to ?_⟩
      rintro _ m1 ⟨eq, rfl⟩
      obtain rfl := eq.symm
      refine ⟨_, rfl, rfl, ?_⟩
      rw [half_mix he hue hm h7']
      refine congrArg (fun z => some (Value.long (lN z))) (pk_ch 16 (fun k hk => ?_))
      show (if (16 * u + k) / 4 = e then f' (16 * u + k) else if (16 * u + k) / 4 = a then f' (16 * u + k) else f (16 * u + k)) = f' (16 * u + k)
      by_cases q : (16 * u + k) / 4 = e
      · rw [if_pos q]
      · rw [if_neg q]
        by_cases q2 : (16 * u + k) / 4 = a
        · rw [if_pos q2]
        · rw [if_neg q2]
          exact hs _ (by omega) q2 q
  have J70 : ∀ y : Int64, y = lN (pkN (mixS a f f') (16 * u) 16) → ((nI e < (4 : Int32) → AW ad E0 μX6_halfAfter (d + 2) (fun r m' => m' = m ∧ r = some (.long (lN (pkN f' (16 * u) 16)))) 70 [(0, .ref (ad 156)), (3, .int (nI e)), (4, .int (nI u)), (5, .long y)] [.int (0 : Int32)] m) ∧ (¬ nI e < (4 : Int32) → AW ad E0 μX6_halfAfter (d + 2) (fun r m' => m' = m ∧ r = some (.long (lN (pkN f' (16 * u) 16)))) 70 [(0, .ref (ad 156)), (3, .int (nI e)), (4, .int (nI u)), (5, .long y)] [.int (1 : Int32)] m)) := fun y hy => by
    subst hy
    have q := fl e he
    refine ⟨fun c => ?_, fun c => ?_⟩
    · rw [if_pos c] at q
      rw [q]
      exact K70
    · rw [if_neg c] at q
      rw [q]
      exact K70
  have K38 : AW ad E0 μX6_halfAfter (d + 2) (fun r m' => m' = m ∧ r = some (.long (lN (pkN f' (16 * u) 16)))) 38 [(0, .ref (ad 156)), (2, .int (nI a)), (3, .int (nI e)), (4, .int (nI u)), (5, .long (lN (pkN f (16 * u) 16)))] [.int (nI (a / 4))] m := by
    refine g_X6_halfAfter_38 (d := d + 1) ⟨fun c => J70 _ ?_, fun c => (withC (d := d + 1) ha (pk_48 h7 (o := 16 * u) (by omega))).to ?_⟩
    · have hne : a / 4 ≠ u := fun z => c (by rw [z])
      refine congrArg lN (pk_ch 16 (fun k hk => ?_))
      unfold mixS
      rw [if_neg (by omega)]
    · have hue : a / 4 = u := (nI_eq (by omega) (by omega)).mp c
      rintro _ m1 ⟨eq, rfl⟩
      obtain rfl := eq.symm
      refine ⟨_, rfl, (packC (d := d) SS_157 h h7' ha).to ?_⟩
      rintro _ m1 ⟨eq, rfl⟩
      obtain rfl := eq.symm
      exact ⟨_, rfl, J70 _ (half_mix ha hue h7 h7')⟩
  have K26 : AW ad E0 μX6_halfAfter (d + 2) (fun r m' => m' = m ∧ r = some (.long (lN (pkN f' (16 * u) 16)))) 26 [(0, .ref (ad 156)), (2, .int (nI a)), (3, .int (nI e)), (4, .int (nI u))] [.long (lN (pkN f (16 * u) 16))] m := by
    have q := fl a ha
    refine g_X6_halfAfter_26 (d := d + 1) ⟨fun c => ?_, fun c => ?_⟩
    · rw [if_pos c] at q
      rw [q]
      exact K38
    · rw [if_neg c] at q
      rw [q]
      exact K38
  have V : vp_in (nI t) 3000 := nat_in ht (by decide)
  refine v_X6_halfAfter (d := d + 1) ⟨fun c => ⟨V, ?_⟩, fun c => ⟨V, ?_⟩⟩
  · have hu0 : u = 0 := (nI_eq (a := u) (b := 0) (by omega) (by decide)).mp c
    subst hu0
    rw [nI_clamp (by omega), hA]
    exact K26
  · have hu1 : u = 1 := by
      have : u ≠ 0 := fun z => c (by rw [z]; rfl)
      omega
    subst hu1
    rw [nI_clamp (by omega), hB]
    exact K26
/-! a game told by its mark: none taught, nothing changed -/
set_option maxHeartbeats 1000000 in
theorem teachN (hb : SS b ρ) (hρ : GR ρ) (w : WT m) (f0 : Fx (RS [2, ρ]) m0 m) (h : HC b m g) (hE : EC m v) (hf : a < 8) (ht : t < 8) (hft : a ≠ t) :
    Ct ad μX1_teach (d + 2) [.ref (ad 3), .ref (ad b), .int (nI a), .int (nI t), .int 0] m (fun r m' => r = none ∧ WT m' ∧ Fx (RS [2, ρ]) m0 m' ∧ HC b m' (tchG false v a t g) ∧ (m'.1 3 6 = -1 → m.1 3 6 = -1 ∧ tchG false v a t g = g)) := by
  obtain ⟨e1, e2, e3, e4, e5, e6, e7⟩ := hE
  refine v_X1_teach hb.1 ?_
  rw [e2]
  refine (furthC (d := d) hb h hf ht e4).to ?_
  rintro _ m1 ⟨eq, rfl⟩
  obtain rfl := eq.symm
  refine ⟨_, rfl, fun c => ?_, fun c => ?_⟩
  · rcases artG_of (s := g.1) (f := a) (t := t) (n := aE v) with q | ⟨j, hj, q⟩
    · exact absurd q c
    have G : tchG false v a t g = (upd (upd g.1 (4 * t + j) (g.1 (4 * t + j) + gnG (iE v a) (lE v 1) (g.1 (4 * t + j)) (g.1 (4 * a + j)))) (4 * a + j) (clS (g.1 (4 * a + j) + lE v 2 - 1)), g.2.1, g.2.2.1, g.2.2.2) := by
      unfold tchG gainG
      rw [if_neg c, q, nI_clamp (by omega), if_neg (by decide)]
    rw [G, q]
    refine (skillC (d := d + 1) hb h ht (a := j) (by omega)).to ?_
    rintro _ m2 ⟨eq, rfl⟩
    obtain rfl := eq.symm
    refine ⟨_, rfl, (skillC (d := d + 1) hb h hf (a := j) (by omega)).to ?_⟩
    rintro _ m3 ⟨eq, rfl⟩
    obtain rfl := eq.symm
    refine ⟨_, rfl, (isIllC (d := d + 1) (v := v) e6.1 hf).to ?_⟩
    rintro _ m4 ⟨eq, rfl⟩
    obtain rfl := eq.symm
    generalize hn : gnG (iE v a) (lE v 1) (g.1 (4 * t + j)) (g.1 (4 * a + j)) = n
    have go : AW ad E0 μX1_teach (d + 1 + 1) (fun r m' => r = none ∧ WT m' ∧ Fx (RS [2, ρ]) m0 m' ∧ HC b m' (upd (upd g.1 (4 * t + j) (g.1 (4 * t + j) + n)) (4 * a + j) (clS (g.1 (4 * a + j) + lE v 2 - 1)), g.2.1, g.2.2.1, g.2.2.2) ∧ (m'.1 3 6 = -1 → m.1 3 6 = -1 ∧ (upd (upd g.1 (4 * t + j) (g.1 (4 * t + j) + n)) (4 * a + j) (clS (g.1 (4 * a + j) + lE v 2 - 1)), g.2.1, g.2.2.1, g.2.2.2) = g)) 63 [(0, .ref (ad 3)), (1, .ref (ad b)), (2, .int (nI a)), (3, .int (nI t)), (4, .int 0), (5, .int (nI j)), (6, .int (g.1 (4 * t + j))), (7, .int (g.1 (4 * a + j)))] [.int n] m := by
      refine g_X1_teach_63 hb.1 ((putC (d := d + 1) hb ht (a := j) (by omega)).to ?_)
      rintro _ m5 ⟨rfl, rfl⟩
      have l2 : (uI m (b + 1) (4 * t + j) (g.1 (4 * t + j) + n)).1 4 2 = lE v 2 := (Fx.at (SS.fu hb (Fx.rf (m := m)) (j := 1) (by decide)) (a := 4) (k := 2) (nRS (ρ := 43) (all_ne (L := [1, 41, 42, 43]) hρ.e1 rfl) rfl)).trans (e5 2 (by decide))
      have e22 : (2 : Int32).toNatClampNeg = 2 := rfl
      rw [e22, l2]
      refine ⟨rfl, (clampS (d := d + 1)).to ?_⟩
      rintro _ m6 ⟨eq, rfl⟩
      obtain rfl := eq.symm
      refine ⟨_, rfl, (putC (d := d + 1) hb hf (a := j) (by omega)).to ?_⟩
      rintro _ m7 ⟨rfl, rfl⟩
      have w7 : WT (uI (uI m (b + 1) (4 * t + j) (g.1 (4 * t + j) + n)) (b + 1) (4 * a + j) (clS (g.1 (4 * a + j) + lE v 2 - 1))) := hb.wu (hb.wu w (by decide)) (by decide)
      have f7 : Fx (RS [2, ρ]) m0 (uI (uI m (b + 1) (4 * t + j) (g.1 (4 * t + j) + n)) (b + 1) (4 * a + j) (clS (g.1 (4 * a + j) + lE v 2 - 1))) := hb.fu (hb.fu f0 (by decide)) (by decide)
      have H7 : HC b (uI (uI m (b + 1) (4 * t + j) (g.1 (4 * t + j) + n)) (b + 1) (4 * a + j) (clS (g.1 (4 * a + j) + lE v 2 - 1))) (upd (upd g.1 (4 * t + j) (g.1 (4 * t + j) + n)) (4 * a + j) (clS (g.1 (4 * a + j) + lE v 2 - 1)), g.2) := (h.sk).sk
      have hb3 : ¬ (b ≤ 3 ∧ 3 ≤ b + 4) := fun q => by
        have r3 := (hb.2 (3 - b) 3 (by omega)).1
        rw [show b + (3 - b) = 3 by omega] at r3
        have r4 : rg 3 3 = 41 := rfl
        rw [r4] at r3
        rcases hρ with z | z | z | z | z | z | z <;> omega
      refine ⟨rfl, fun q => ?_, fun q => absurd rfl q⟩
      refine g_X1_teach_117 ⟨fun z => ⟨rfl, w7, f7, H7, fun y => absurd y z⟩, fun _ => ⟨rfl, (w7.n rfl).n rfl, (f7.i (show RS [2, ρ] 3 6 from rfl)).i (show RS [2, ρ] 3 7 from rfl), (H7.o hb3).o hb3, fun y => ?_⟩⟩
      have y' : nI j = -1 := (((u_ne (by omega)).trans u_eq).symm.trans y)
      have := congrArg Int32.toInt y'
      rw [nI_toInt (by omega)] at this
      have z1 : (-1 : Int32).toInt = -1 := rfl
      omega
    have e11 : (1 : Int32).toNatClampNeg = 1 := rfl
    rw [e11, e5 1 (by decide)]
    refine ⟨_, rfl, fun q => ?_, fun q => ?_⟩
    · have hi : ¬ iE v a = true := fun z => by rw [if_pos z] at q; exact absurd q (by decide)
      have en : (if g.1 (4 * a + j) - g.1 (4 * t + j) < lE v 1 then g.1 (4 * a + j) - g.1 (4 * t + j) else lE v 1) = n := by rw [← hn]; unfold gnG; rw [if_neg hi]
      rw [en]
      exact go
    · have hi : iE v a = true := by
        cases e : iE v a with
        | true => rfl
        | false => exact absurd (by rw [e]; rfl) q
      have en : (0 : Int32) = n := by rw [← hn]; unfold gnG; rw [if_pos hi]
      subst en
      exact go
  · have G : tchG false v a t g = g := if_pos c
    rw [G]
    exact ⟨rfl, w, f0, h, fun y => ⟨y, rfl⟩⟩
theorem settleN (hb : SS b ρ) (hρ : GR ρ) (w : WT m) (h : HC b m g) (hE : EC m v) (ha : a < 8) (he : e < 8) (hae : a ≠ e) {x4 : Int32} (h2 : ¬ x4 = 2) :
    Ct ad μX1_settle (d + 3) [.ref (ad 3), .ref (ad b), .int (nI a), .int (nI e), .int x4, .int 0] m (fun r m' => r = none ∧ WT m' ∧ Fx (RS [2, ρ]) m m' ∧ HC b m' (stlG false v a e x4 g) ∧ (m'.1 3 6 = -1 → stlG false v a e x4 g = g)) := by
  have e00 : (0 : Int32).toNatClampNeg = 0 := rfl
  have hb3 : ¬ (b ≤ 3 ∧ 3 ≤ b + 4) := fun q => by
    have r3 := (hb.2 (3 - b) 3 (by omega)).1
    rw [show b + (3 - b) = 3 by omega] at r3
    have r4 : rg 3 3 = 41 := rfl
    rw [r4] at r3
    rcases hρ with z | z | z | z | z | z | z <;> omega
  have lw0 : ∀ m1, Fx (RS [2, ρ]) m m1 → m1.1 4 0 = lE v 0 := fun m1 f1 => (f1.at (nRS (ρ := 43) (all_ne (L := [1, 41, 42, 43]) hρ.e1 rfl) rfl)).trans (hE.2.2.2.2.1 0 (by decide))
  have WL : ∀ (wi lo : Nat) (m1 : Wm), wi < 8 → lo < 8 → wi ≠ lo → WT m1 → Fx (RS [2, ρ]) m m1 → HC b m1 g → AW ad E0 μX1_settle (d + 2 + 1) (fun r m' => r = none ∧ WT m' ∧ Fx (RS [2, ρ]) m m' ∧ HC b m' (stl2 false v wi lo (stl1 false v wi lo g)) ∧ (m'.1 3 6 = -1 → stl2 false v wi lo (stl1 false v wi lo g) = g)) 52 [(0, .ref (ad 3)), (1, .ref (ad b)), (5, .int 0), (6, .int (nI wi))] [.int (nI lo)] m1 := by
    intro wi lo m1 hwi hlo hwl w1 f1 H1
    have B : ∀ (g2 : GS) (m2 : Wm), WT m2 → Fx (RS [2, ρ]) m m2 → HC b m2 g2 → (m2.1 3 6 = -1 → g2 = g) → AW ad E0 μX1_settle (d + 2 + 1) (fun r m' => r = none ∧ WT m' ∧ Fx (RS [2, ρ]) m m' ∧ HC b m' (stl2 false v wi lo g2) ∧ (m'.1 3 6 = -1 → stl2 false v wi lo g2 = g)) 84 [(0, .ref (ad 3)), (1, .ref (ad b)), (5, .int 0), (6, .int (nI wi)), (7, .int (nI lo))] [] m2 := by
      intro g2 m2 w2 f2 H2 k2
      have T : lE v 0 = 1 ∨ lE v 0 = 2 → AW ad E0 μX1_settle (d + 2 + 1) (fun r m' => r = none ∧ WT m' ∧ Fx (RS [2, ρ]) m m' ∧ HC b m' (stl2 false v wi lo g2) ∧ (m'.1 3 6 = -1 → stl2 false v wi lo g2 = g)) 104 [(0, .ref (ad 3)), (1, .ref (ad b)), (5, .int 0), (6, .int (nI wi)), (7, .int (nI lo))] [] m2 := fun q => by
        have es : stl2 false v wi lo g2 = tchG false v lo wi g2 := if_pos q
        rw [es]
        refine g_X1_settle_104 hb.1 ((teachN (d := d) hb hρ w2 f2 H2 (hE.fx f2 hρ.e1) hlo hwi (Ne.symm hwl)).to ?_)
        rintro _ m3 ⟨rfl, w3, f3, H3, k3⟩
        exact ⟨rfl, rfl, w3, f3, H3, fun y => ((k3 y).2).trans (k2 (k3 y).1)⟩
      refine g_X1_settle_84 hb.1 ?_
      rw [e00, lw0 m2 f2]
      refine ⟨fun q => T (Or.inl q), fun n1 => ⟨fun n2 => ?_, fun q => T (Or.inr q)⟩⟩
      have es : stl2 false v wi lo g2 = g2 := if_neg (fun z => z.elim n1 n2)
      rw [es]
      exact ⟨rfl, w2, f2, H2, k2⟩
    have T : lE v 0 = 0 ∨ lE v 0 = 2 → Ct ad μX1_teach (d + 2) [.ref (ad 3), .ref (ad b), .int (nI wi), .int (nI lo), .int 0] m1 (fun r m2 => r = none ∧ AW ad E0 μX1_settle (d + 2 + 1) (fun r m' => r = none ∧ WT m' ∧ Fx (RS [2, ρ]) m m' ∧ HC b m' (stl2 false v wi lo (stl1 false v wi lo g)) ∧ (m'.1 3 6 = -1 → stl2 false v wi lo (stl1 false v wi lo g) = g)) 84 [(0, .ref (ad 3)), (1, .ref (ad b)), (5, .int 0), (6, .int (nI wi)), (7, .int (nI lo))] [] m2) := fun q => by
      refine (teachN (d := d) hb hρ w1 f1 H1 (hE.fx f1 hρ.e1) hwi hlo hwl).to ?_
      rintro _ m3 ⟨rfl, w3, f3, H3, k3⟩
      refine ⟨rfl, ?_⟩
      have es : stl1 false v wi lo g = tchG false v wi lo g := if_pos q
      rw [es]
      exact B _ _ w3 f3 H3 (fun y => (k3 y).2)
    refine g_X1_settle_52 hb.1 ?_
    rw [e00, lw0 m1 f1]
    refine ⟨fun q => T (Or.inl q), fun n0 => ⟨fun n2 => ?_, fun q => T (Or.inr q)⟩⟩
    have es : stl1 false v wi lo g = g := if_neg (fun z => z.elim n0 n2)
    rw [es]
    exact B _ _ w1 f1 H1 (fun _ => rfl)
  have w2 : WT (uI (uI m 3 6 (-1 : Int32)) 3 7 (0 : Int32)) := (w.n rfl).n rfl
  have f2 : Fx (RS [2, ρ]) m (uI (uI m 3 6 (-1 : Int32)) 3 7 (0 : Int32)) := ((Fx.rf (S := RS [2, ρ])).i (show RS [2, ρ] 3 6 from rfl)).i (show RS [2, ρ] 3 7 from rfl)
  have H2 : HC b (uI (uI m 3 6 (-1 : Int32)) 3 7 (0 : Int32)) g := (h.o hb3).o hb3
  have es : stlG false v a e x4 g = stl2 false v (if x4 = 0 then a else e) (if x4 = 0 then e else a) (stl1 false v (if x4 = 0 then a else e) (if x4 = 0 then e else a) g) := by
    unfold stlG
    rw [if_neg h2, if_neg (show ¬ (false = true) by decide)]
  rw [es]
  refine v_X1_settle hb.1 ⟨fun _ => ?_, fun q => absurd rfl q⟩
  refine g_X1_settle_23 hb.1 ⟨fun _ => ⟨fun n0 => ⟨fun _ => ?_, fun q => absurd q n0⟩, fun q0 => ⟨fun q => absurd q0 q, fun _ => ?_⟩⟩, fun q2 => absurd q2 h2⟩
  · rw [if_neg n0, if_neg n0]
    exact WL e a _ he ha (Ne.symm hae) w2 f2 H2
  · rw [if_pos q0, if_pos q0]
    exact WL a e _ ha he hae w2 f2 H2
end SCS
