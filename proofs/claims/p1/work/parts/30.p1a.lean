/-! ONE CALL ON NEW OBJECTS (and rows that serve every call) -/
theorem i32_nlt {a b : Int32} (h : ¬ a < b) : b ≤ a := Int32.not_lt.mp h
theorem i32_nle {a b : Int32} (h : ¬ a ≤ b) : b < a := Int32.not_le.mp h
/-- what isn't the class's stays -/
def Sm (m m' : Wm) : Prop := ∀ a, 187 ≤ a → m'.1 a = m.1 a ∧ m'.2.1 a = m.2.1 a ∧ m'.2.2 a = m.2.2 a
theorem Sm.rf {m : Wm} : Sm m m := fun _ _ => ⟨rfl, rfl, rfl⟩
theorem Sm.tr {m m' m'' : Wm} (h : Sm m m') (h2 : Sm m' m'') : Sm m m'' := fun a ha => ⟨(h2 a ha).1.trans (h a ha).1, (h2 a ha).2.1.trans (h a ha).2.1, (h2 a ha).2.2.trans (h a ha).2.2⟩
theorem Sm.i {m m' : Wm} {a k : Nat} {v : Int32} (h : Sm m m') (ha : a < 187) : Sm m (uI m' a k v) := fun b hb => ⟨by rw [← (h b hb).1]; funext j; simp [uI, show b ≠ a by omega], (h b hb).2.1, (h b hb).2.2⟩
theorem Sm.l {m m' : Wm} {a k : Nat} {v : Int64} (h : Sm m m') (ha : a < 187) : Sm m (uL m' a k v) := fun b hb => ⟨(h b hb).1, by rw [← (h b hb).2.1]; funext j; simp [uL, show b ≠ a by omega], (h b hb).2.2⟩
theorem Sm.r {m m' : Wm} {a k : Nat} {v : Option Nat} (h : Sm m m') (ha : a < 187) : Sm m (uR m' a k v) := fun b hb => ⟨(h b hb).1, (h b hb).2.1, by rw [← (h b hb).2.2]; funext j; simp [uR, show b ≠ a by omega]⟩
theorem Sm.c {m m' : Wm} {a a0 s e n : Nat} (h : Sm m m') (ha : a < 187) : Sm m (uC m' a0 a s e n) := fun b hb => ⟨by rw [← (h b hb).1]; funext j; simp [uC, show b ≠ a by omega], (h b hb).2.1, (h b hb).2.2⟩
theorem vin {a M : Int32} {n : Nat} (hM : M.toInt = n) (h0 : ¬ a < 0) (h1 : a < M) : vp_in a n := vp_in_iff.mpr (by
  rw [fa_lt] at h0 h1
  rw [hM] at h1
  have : (0 : Int32).toInt = 0 := rfl
  omega)
section P1
variable {ad : Nat → Nat} {d : Nat} {m : Wm}
/-- the answer is c, and what isn't the class's stays -/
abbrev Ans (m : Wm) (c : Int32) : Option Value → Wm → Prop := fun r m' => r = some (.int c) ∧ Sm m m'
theorem has0 {s : Int32} (h : m.1 3 3 = 0) : Ct ad μX1_has d [.ref (ad 3), .int s] m (fun r m' => m' = m ∧ r = some (.int 0)) :=
  v_X1_has ⟨fun _ => ⟨rfl, rfl⟩, fun h1 => ⟨fun _ => ⟨rfl, rfl⟩, fun h2 => absurd (by rw [h]; exact i32_nlt h1) h2⟩⟩
theorem meet0 {s t : Int32} (h : m.1 3 3 = 0) : Ct ad μX1_canMeet (d + 1) [.ref (ad 3), .int s, .int t] m (fun r m' => m' = m ∧ r = some (.int 0)) :=
  v_X1_canMeet ((has0 h).to (by rintro _ _ ⟨rfl, rfl⟩; exact ⟨0, rfl, fun _ => ⟨rfl, rfl⟩, fun h => absurd rfl h⟩))
theorem knowsX {s : Int32} : Ct ad μX1_knows d [.ref (ad 3), .int s] m (fun r m' => m' = m ∧ r = some (.int (if s < 0 then 0 else if m.1 3 4 ≤ s then 0 else 1))) := by
  refine v_X1_knows ?_
  by_cases h1 : s < 0 <;> by_cases h2 : m.1 3 4 ≤ s <;> simp [h1, h2]
theorem c_skill {a b : Int32} (h : m.1 3 3 = 0) : Ct ad μX11_skill (d + 1) [.ref (ad 0), .int a, .int b] m (Ans m (-1)) :=
  v_X11_skill ((has0 h).to (by rintro _ _ ⟨rfl, rfl⟩; exact ⟨0, rfl, fun _ => ⟨rfl, Sm.rf⟩, fun h => absurd rfl h⟩))
theorem c_ill {a b : Int32} (h : m.1 3 3 = 0) : Ct ad μX11_ill (d + 1) [.ref (ad 0), .int a, .int b] m (Ans m 0) :=
  v_X11_ill ((has0 h).to (by rintro _ _ ⟨rfl, rfl⟩; exact ⟨0, rfl, fun h => absurd rfl h, fun _ => ⟨rfl, Sm.rf⟩⟩))
theorem c_beats {a : Int32} (h : m.1 3 3 = 0) : Ct ad μX11_beats (d + 1) [.ref (ad 0), .int a] m (Ans m (-1)) :=
  v_X11_beats ((has0 h).to (by rintro _ _ ⟨rfl, rfl⟩; exact ⟨0, rfl, fun h => absurd rfl h, fun _ => ⟨rfl, Sm.rf⟩⟩))
theorem c_mean {a b : Int32} (h : m.1 3 3 = 0) : Ct ad μX11_mean (d + 1) [.ref (ad 0), .int a, .int b] m (Ans m (-1)) :=
  v_X11_mean ((has0 h).to (by rintro _ _ ⟨rfl, rfl⟩; exact ⟨0, rfl, fun _ => ⟨rfl, Sm.rf⟩, fun h => absurd rfl h⟩))
theorem c_soon {a b c : Int32} (h : m.1 3 3 = 0) : Ct ad μX11_soon (d + 1) [.ref (ad 0), .int a, .int b, .int c] m (Ans m (-1)) :=
  v_X11_soon ((has0 h).to (by rintro _ _ ⟨rfl, rfl⟩; exact ⟨0, rfl, fun _ => ⟨rfl, Sm.rf⟩, fun h => absurd rfl h⟩))
theorem c_wins {a b c : Int32} (h : m.1 3 3 = 0) : Ct ad μX11_wins (d + 1) [.ref (ad 0), .int a, .int b, .int c] m (Ans m (-1)) :=
  v_X11_wins ((has0 h).to (by rintro _ _ ⟨rfl, rfl⟩; exact ⟨0, rfl, fun _ => ⟨rfl, Sm.rf⟩, fun h => absurd rfl h⟩))
theorem c_top {a b c : Int32} (h : m.1 3 3 = 0) : Ct ad μX11_top (d + 1) [.ref (ad 0), .int a, .int b, .int c] m (Ans m (-1)) :=
  v_X11_top ((has0 h).to (by rintro _ _ ⟨rfl, rfl⟩; exact ⟨0, rfl, fun _ => ⟨rfl, Sm.rf⟩, fun h => absurd rfl h⟩))
theorem c_best {a b : Int32} (h : m.1 3 3 = 0) : Ct ad μX11_best (d + 1) [.ref (ad 0), .int a, .int b] m (Ans m (-1)) :=
  v_X11_best ((has0 h).to (by rintro _ _ ⟨rfl, rfl⟩; exact ⟨0, rfl, fun _ => ⟨rfl, Sm.rf⟩, fun h => absurd rfl h⟩))
theorem c_next {a : Int32} (h : m.1 3 3 = 0) : Ct ad μX11_next (d + 1) [.ref (ad 0), .int a] m (Ans m (-1)) :=
  v_X11_next ((has0 h).to (by rintro _ _ ⟨rfl, rfl⟩; exact ⟨0, rfl, fun h => absurd rfl h, fun _ => ⟨rfl, Sm.rf⟩⟩))
theorem c_pays {a b : Int32} (h : m.1 3 3 = 0) : Ct ad μX11_pays (d + 1) [.ref (ad 0), .int a, .int b] m (Ans m (-1)) :=
  v_X11_pays ((has0 h).to (by rintro _ _ ⟨rfl, rfl⟩; exact ⟨0, rfl, fun _ => ⟨rfl, Sm.rf⟩, fun h => absurd rfl h⟩))
theorem c_swap {a b : Int32} (h : m.1 3 3 = 0) : Ct ad μX11_swap (d + 2) [.ref (ad 0), .int a, .int b] m (Ans m 0) :=
  v_X11_swap ((meet0 h).to (by rintro _ _ ⟨rfl, rfl⟩; exact ⟨0, rfl, fun h => absurd rfl h, fun _ => ⟨rfl, Sm.rf⟩⟩))
theorem c_game {a b c : Int32} (h : m.1 3 3 = 0) : Ct ad μX11_game (d + 2) [.ref (ad 0), .int a, .int b, .int c] m (Ans m (-1)) :=
  v_X11_game ((meet0 h).to (by rintro _ _ ⟨rfl, rfl⟩; exact ⟨0, rfl, fun _ => ⟨rfl, Sm.rf⟩, fun h => absurd rfl h⟩))
theorem c_odds {a b : Int32} (h : m.1 3 3 = 0) : Ct ad μX11_odds (d + 2) [.ref (ad 0), .int a, .int b] m (Ans m (-1)) :=
  v_X11_odds ((meet0 h).to (by rintro _ _ ⟨rfl, rfl⟩; exact ⟨0, rfl, fun _ => ⟨rfl, Sm.rf⟩, fun h => absurd rfl h⟩))
theorem c_play {a b c : Int32} (h : m.1 3 3 = 0) : Ct ad μX11_play (d + 2) [.ref (ad 0), .int a, .int b, .int c] m (Ans m (-1)) :=
  v_X11_play ((meet0 h).to (by rintro _ _ ⟨rfl, rfl⟩; exact ⟨0, rfl, fun _ => ⟨rfl, Sm.rf⟩, fun h => absurd rfl h⟩))
theorem c_seen {a b c : Int32} (h : m.1 3 3 = 0) : Ct ad μX11_seen (d + 2) [.ref (ad 0), .int a, .int b, .int c] m (Ans m (-1)) :=
  v_X11_seen ((meet0 h).to (by rintro _ _ ⟨rfl, rfl⟩; exact ⟨0, rfl, fun _ => ⟨rfl, Sm.rf⟩, fun h => absurd rfl h⟩))
theorem c_end {a : Int32} : Ct ad μX11_end (d + 1) [.ref (ad 0), .int a] m (Ans m (if a < 0 then 0 else if a ≤ m.1 1 1 then 1 else 0)) := by
  refine v_X11_end (v_X10_cut ?_)
  by_cases h1 : a < 0
  · simp [Ans, h1, bz_0, Sm.rf]
  · by_cases h2 : a ≤ m.1 1 1
    · simp [Ans, h1, h2, bz_1, Sm.rf.i (show 1 < 187 by decide)]
    · simp [Ans, h1, h2, bz_0, Sm.rf]
theorem c_league (h : m.1 1 1 = 0) : Ct ad μX11_league (d + 1) [.ref (ad 0)] m (Ans m 0) := v_X11_league ⟨fun h1 => absurd h h1, fun _ => ⟨rfl, Sm.rf⟩⟩
theorem c_law {w v : Int32} : Ct ad μX11_law (d + 1) [.ref (ad 0), .int w, .int v] m (fun r m' => Sm m m' ∧ r = some (.int (if (w = 0 ∧ 0 ≤ v ∧ v ≤ 3) ∨ (w = 1 ∧ 1 ≤ v ∧ v ≤ 3) ∨ (w = 2 ∧ 0 ≤ v ∧ v ≤ 2) ∨ (w = 3 ∧ 0 ≤ v ∧ v ≤ 99) ∨ (w = 4 ∧ 0 ≤ v ∧ v ≤ 50) then m.1 4 w.toNatClampNeg else -1))) := by
  refine v_X11_law ?_
  have key : ∀ (b : Int32), (b = 1 → (w = 0 ∧ 0 ≤ v ∧ v ≤ 3) ∨ (w = 1 ∧ 1 ≤ v ∧ v ≤ 3) ∨ (w = 2 ∧ 0 ≤ v ∧ v ≤ 2) ∨ (w = 3 ∧ 0 ≤ v ∧ v ≤ 99) ∨ (w = 4 ∧ 0 ≤ v ∧ v ≤ 50)) → (b = 0 → ¬ ((w = 0 ∧ 0 ≤ v ∧ v ≤ 3) ∨ (w = 1 ∧ 1 ≤ v ∧ v ≤ 3) ∨ (w = 2 ∧ 0 ≤ v ∧ v ≤ 2) ∨ (w = 3 ∧ 0 ≤ v ∧ v ≤ 99) ∨ (w = 4 ∧ 0 ≤ v ∧ v ≤ 50))) → bz b →
      ∃ v2 : Int32, some (Value.int b) = some (Value.int v2) ∧ ((¬ v2 = 0 → (vp_in w 5 ∧ (vp_in w 5 ∧ (Sm m (uI m 4 w.toNatClampNeg v) ∧ some (Value.int (m.1 4 w.toNatClampNeg)) = some (.int (if (w = 0 ∧ 0 ≤ v ∧ v ≤ 3) ∨ (w = 1 ∧ 1 ≤ v ∧ v ≤ 3) ∨ (w = 2 ∧ 0 ≤ v ∧ v ≤ 2) ∨ (w = 3 ∧ 0 ≤ v ∧ v ≤ 99) ∨ (w = 4 ∧ 0 ≤ v ∧ v ≤ 50) then m.1 4 w.toNatClampNeg else -1)))))) ∧ (v2 = 0 → (Sm m m ∧ some (Value.int (-1 : Int32)) = some (.int (if (w = 0 ∧ 0 ≤ v ∧ v ≤ 3) ∨ (w = 1 ∧ 1 ≤ v ∧ v ≤ 3) ∨ (w = 2 ∧ 0 ≤ v ∧ v ≤ 2) ∨ (w = 3 ∧ 0 ≤ v ∧ v ≤ 99) ∨ (w = 4 ∧ 0 ≤ v ∧ v ≤ 50) then m.1 4 w.toNatClampNeg else -1))))) := by
    intro b h1 h0 hb
    refine ⟨b, rfl, fun h => ?_, fun h => ?_⟩
    · have hc := h1 (hb.resolve_left h)
      have hv : vp_in w 5 := by
        rcases hc with ⟨rfl, -⟩ | ⟨rfl, -⟩ | ⟨rfl, -⟩ | ⟨rfl, -⟩ | ⟨rfl, -⟩ <;> (unfold vp_in; decide)
      exact ⟨hv, hv, Sm.rf.i (by decide), by rw [if_pos hc]⟩
    · exact ⟨Sm.rf, by rw [if_neg (h0 h)]⟩
  have le0 : ∀ {x y : Int32}, x < y → ¬ y ≤ x := fun h => Int32.not_le.mpr h
  refine v_X1_allows ⟨fun h => ?_, fun h => ?_, fun h => ?_, fun h => ?_, fun h => ?_, fun h0 h1 h2 h3 h4 => ?_⟩
  all_goals first
    | (subst h
       refine ⟨fun c1 => key 0 (fun q => absurd q (by decide)) (fun _ q => ?_) bz_0, fun c1 => ⟨fun c2 => key 0 (fun q => absurd q (by decide)) (fun _ q => ?_) bz_0, fun c2 => key 1 (fun _ => ?_) (fun q => absurd q (by decide)) bz_1⟩⟩
       · simp [le0 c1] at q
       · simp [le0 c2] at q
       · simp [i32_nlt c1, i32_nlt c2])
    | exact key 0 (fun q => absurd q (by decide)) (fun _ q => by simp [h0, h1, h2, h3, h4] at q) bz_0
theorem c_seed {v : Int32} : Ct ad μX11_seed d [.ref (ad 0), .int v] m (Ans m (m.1 21 4)) := v_X11_seed ⟨rfl, Sm.rf.i (by decide)⟩
theorem c_circle (h : m.1 3 3 = 0) : Ct ad μX11_circle (d + 1) [.ref (ad 0)] m (Ans m (-1)) := v_X11_circle ⟨fun h1 => absurd h1 (by rw [h]; decide), fun _ => ⟨rfl, Sm.rf⟩⟩
theorem c_undo (h : m.1 31 1 = 0) : Ct ad μX11_undo (d + 2) [.ref (ad 0)] m (Ans m (-1)) :=
  v_X11_undo (v_X2_takeBack St_21 ⟨fun h1 => absurd h h1, fun _ => ⟨0, rfl, fun _ => ⟨rfl, Sm.rf⟩, fun h => absurd rfl h⟩⟩)
theorem c_rest {r : Nat} (hr : m.2.2 0 9 = some r) (hp : Pl r) (h : m.1 r 5 = 0) : Ct ad μX11_rest (d + 1) [.ref (ad 0)] m (Ans m (-1)) := v_X11_rest ⟨r, hr, hp, fun h1 => absurd h h1, fun _ => ⟨rfl, Sm.rf⟩⟩
theorem c_rounds {a : Int32} {r : Nat} (hr : m.2.2 0 9 = some r) (hp : Pl r) (h : m.1 r 5 = 0) : Ct ad μX11_rounds (d + 1) [.ref (ad 0), .int a] m (Ans m (-1)) :=
  v_X11_rounds ⟨fun _ => ⟨rfl, Sm.rf⟩, fun _ => ⟨fun _ => ⟨rfl, Sm.rf⟩, fun _ => ⟨r, hr, hp, fun h1 => absurd h h1, fun _ => ⟨rfl, Sm.rf⟩⟩⟩⟩
theorem c_hopes {a : Int32} {r : Nat} (hr : m.2.2 0 9 = some r) (hp : Pl r) (h : m.1 r 5 = 0) : Ct ad μX11_hopes (d + 1) [.ref (ad 0), .int a] m (Ans m (-1)) :=
  v_X11_hopes ⟨fun _ => ⟨rfl, Sm.rf⟩, fun _ => ⟨fun _ => ⟨rfl, Sm.rf⟩, fun _ => ⟨r, hr, hp, fun h1 => absurd h h1, fun _ => ⟨rfl, Sm.rf⟩⟩⟩⟩
theorem c_laws {a : Int32} {r : Nat} (hr : m.2.2 0 9 = some r) (hp : Pl r) (h : m.1 r 5 = 0) : Ct ad μX11_laws (d + 1) [.ref (ad 0), .int a] m (Ans m (-1)) :=
  v_X11_laws ⟨fun _ => ⟨rfl, Sm.rf⟩, fun _ => ⟨fun _ => ⟨rfl, Sm.rf⟩, fun _ => ⟨r, hr, hp, fun h1 => absurd h h1, fun _ => ⟨rfl, Sm.rf⟩⟩⟩⟩
theorem c_even {a : Int32} (h : m.1 3 3 = 0) : Ct ad μX11_even (d + 1) [.ref (ad 0), .int a] m (Ans m (-1)) :=
  v_X11_even ⟨fun _ => ⟨rfl, Sm.rf⟩, fun _ => ⟨fun _ => ⟨rfl, Sm.rf⟩, fun _ => ⟨fun h1 => absurd h h1, fun _ => ⟨rfl, Sm.rf⟩⟩⟩⟩
theorem c_prize (h : m.1 3 3 = 0) : Ct ad μX11_prize (d + 1) [.ref (ad 0)] m (Ans m (-2)) := v_X11_prize ⟨fun h1 => absurd h h1, fun _ => ⟨rfl, Sm.rf⟩⟩
theorem c_spread (h : m.1 3 3 = 0) : Ct ad μX11_spread (d + 1) [.ref (ad 0)] m (Ans m 0) := v_X11_spread ⟨fun h1 => absurd h h1, fun _ => ⟨rfl, Sm.rf.i (by decide)⟩⟩
theorem c_table (h : m.1 3 3 = 0) : Ct ad μX11_table (d + 1) [.ref (ad 0)] m (Ans m 0) := by
  refine v_X11_table (g_X11_table_2 ⟨fun _ => g_X11_table_39 ⟨fun _ => ⟨?_, Sm.rf.i (by decide)⟩, fun h1 => absurd (by rw [h]; decide) h1⟩, fun h1 => absurd (by rw [h]; decide) h1⟩)
  simp [uI, h]
theorem c_kings (h : m.1 3 3 = 0) : Ct ad μX11_kings (d + 1) [.ref (ad 0)] m (Ans m 0) :=
  v_X11_kings (g_X11_kings_4 ⟨fun _ => g_X11_kings_52 ⟨fun _ => v_X11_tell ⟨rfl, ⟨rfl, (Sm.rf.l (by decide)).i (by decide)⟩⟩, fun h1 => absurd (by rw [h]; decide) h1⟩, fun h1 => absurd (by rw [h]; decide) h1⟩)
theorem c_master {a : Int32} (h : m.1 3 3 = 0) (h4 : m.1 3 4 = 2) : Ct ad μX11_master (d + 1) [.ref (ad 0), .int a] m (Ans m (if a < 0 then -1 else if 2 ≤ a then -1 else -2)) := by
  refine v_X11_master (knowsX.to ?_)
  rintro _ _ ⟨rfl, rfl⟩
  rw [h4]
  by_cases h1 : a < 0
  · simp [Ans, h1, Sm.rf]
  · by_cases h2 : 2 ≤ a
    · simp [Ans, h1, h2, Sm.rf]
    · simp [Ans, h1, h2, h, Sm.rf]
theorem c_rule {r : Nat} {r4 : Nat} (h : m.1 1 1 = 0) (hr : m.2.2 3 2 = some r) (hu : Ru r) (hr4 : m.2.2 3 1 = some r4) (hu4 : Ru r4) (hlt : r < 150) (hne : r ≠ 1) (hne4 : r + 4 ≠ 1) : Ct ad μX11_rule (d + 2) [.ref (ad 0)] m (Ans m 0) := by
  have hs : Sm m (uI (uI (uI (uI (uI (uI m r 4 0) r 5 0) r 6 0) r 7 0) r 8 1) (r + 4) (0 : Int32).toNatClampNeg (vp_nar .boolean 0)) := (((((Sm.rf.i (by omega)).i (by omega)).i (by omega)).i (by omega)).i (by omega)).i (by omega)
  have h0 : (uI (uI (uI (uI (uI (uI m r 4 0) r 5 0) r 6 0) r 7 0) r 8 1) (r + 4) (0 : Int32).toNatClampNeg (vp_nar .boolean 0)).1 1 1 = 0 := by
    simp [uI, h, Ne.symm hne, Ne.symm hne4]
  refine v_X11_rule ⟨r, hr, hu, v_X5_compile hu ⟨fun h1 => absurd h0 h1, fun _ => ⟨-1, rfl, fun _ => ⟨r4, hr4, hu4, r, hr, hu, rfl, ((hs.i (by decide)).r (by decide)).r (by decide)⟩, fun h1 => absurd rfl h1⟩⟩⟩
theorem c_plan {r r4 : Nat} (h : m.1 1 1 = 0) (hr : m.2.2 0 10 = some r) (hu : Pl r) (hr4 : m.2.2 0 9 = some r4) (hu4 : Pl r4) (hlt : r < 150) (hne : r ≠ 1) (hne0 : r ≠ 0) : Ct ad μX11_plan (d + 2) [.ref (ad 0)] m (Ans m 0) := by
  have hs : Sm m (uI (uI m r 5 0) r 6 0) := (Sm.rf.i (by omega)).i (by omega)
  have h0 : (uI (uI m r 5 0) r 6 0).1 1 1 = 0 := by simp [uI, h, Ne.symm hne]
  refine v_X11_plan ⟨r, hr, hu, v_X3_compile hu (v_X3_clear hu ⟨rfl, fun h1 => absurd h0 h1, fun _ => ⟨-1, rfl, fun _ => ⟨r4, hr4, hu4, r, hr, hu, r, ?_, hu, ?_, ((((hs.i (by decide)).r (by decide)).r (by decide)).i (by decide))⟩, fun h1 => absurd rfl h1⟩⟩)⟩
  · simp [uI, uR]
  · simp [uI, uR, hne, hne0]
theorem c_count {w : Int32} {r : Nat} (hr : m.2.2 0 9 = some r) (hp : Pl r) : Ct ad μX11_count d [.ref (ad 0), .int w] m (Ans m (if w = 0 then m.1 3 3 else if w = 1 then m.1 3 4 else if w = 2 then m.1 r 5 else if w = 3 then m.1 0 11 else if w = 4 then m.1 31 1 else if w = 5 then m.1 0 15 else if w = 6 then m.1 0 18 else if w = 7 then m.1 1 1 else if w = 8 then m.1 r 6 else -1)) := by
  refine v_X11_count ⟨?_, ?_, ?_, ?_, ?_, ?_, ?_, ?_, ?_, ?_⟩
  all_goals first
    | (rintro rfl; exact ⟨rfl, Sm.rf⟩)
    | (rintro rfl; exact ⟨r, hr, hp, rfl, Sm.rf⟩)
    | (intro h0 h1 h2 h3 h4 h5 h6 h7 h8; exact ⟨by simp [h0, h1, h2, h3, h4, h5, h6, h7, h8], Sm.rf⟩)
theorem c_again {a : Int32} (h : ∀ j : Nat, j < 2 → ∃ r, m.2.2 133 j = some r ∧ Ke r ∧ m.1 r 4 = 0) : Ct ad μX11_again (d + 1) [.ref (ad 0), .int a] m (Ans m 0) := by
  refine v_X11_again ⟨fun _ => ⟨rfl, Sm.rf⟩, fun h1 => ⟨fun _ => ⟨rfl, Sm.rf⟩, fun h2 => ?_⟩⟩
  have hv : vp_in a 2 := vin (M := 2) rfl h1 (fa_of_nle h2)
  obtain ⟨j, hj, rfl⟩ := vp_in_of hv (by decide)
  obtain ⟨r, hr, hk, h4⟩ := h j hj
  refine ⟨hv, r, ?_, hk, fun h3 => absurd h4 h3, fun _ => ⟨rfl, Sm.rf⟩⟩
  rw [nI_clamp (by omega)]; exact hr
theorem c_copy {a b : Nat} (ha : St a) (hb : St b) (hlt : a + 4 < 187) : Ct ad μX8_copy (d + 1) [.ref (ad a), .ref (ad b)] m (fun r m' => r = none ∧ Sm m m') :=
  v_X8_copy ha hb ⟨by decide, by decide, by decide, by decide, by decide, by decide, by decide, by decide, by decide, by decide, by decide, by decide, by decide, by decide, by decide, by decide, by decide, by decide, by decide, by decide, rfl, ((((Sm.rf.c (by omega)).c (by omega)).c (by omega)).c (by omega)).i (by omega)⟩
theorem c_keep {a : Int32} (h : ∀ j : Nat, j < 2 → ∃ r, m.2.2 133 j = some r ∧ Ke r ∧ r + 6 < 187) : Ct ad μX11_keep (d + 3) [.ref (ad 0), .int a] m (Ans m (if a < 0 then 0 else if a < 2 then 1 else 0)) := by
  refine v_X11_keep ⟨fun h1 => ⟨by simp [h1], Sm.rf⟩, fun h1 => ⟨fun h2 => ?_, fun h2 => ⟨by simp [h1, h2], Sm.rf⟩⟩⟩
  have hv : vp_in a 2 := vin (M := 2) rfl h1 h2
  obtain ⟨j, hj, rfl⟩ := vp_in_of hv (by decide)
  obtain ⟨r, hr, hk, hlt⟩ := h j hj
  refine ⟨hv, r, by rw [nI_clamp (by omega)]; exact hr, hk, v_X0_store hk St_21 ((c_copy hk.2.1 St_21 (by omega)).to ?_)⟩
  rintro _ m1 ⟨rfl, hs⟩
  refine ⟨rfl, by decide, by decide, by decide, by decide, by decide, rfl, by simp [h1, h2], ?_⟩
  exact (((hs.i (by omega)).c (by omega)).i (by omega)).i (by omega)
theorem c_sign {v : Int32} (h : m.1 1 1 = 0) : Ct ad μX11_sign (d + 1) [.ref (ad 0), .int v] m (Ans m 4) := by
  refine v_X11_sign (v_X10_add ⟨fun _ => ?_, fun h1 => absurd (by rw [h]; decide) h1⟩)
  have step : ∀ (k : Nat), k ≤ 4 → ∀ (w : Wm), w.1 1 1 = nI (4 - k) → Sm m w → AW ad E0 μX10_add d (fun r m1 => ∃ v2 : Int32, r = some (.int v2) ∧ ((v2 = 0 → Ans m 4 (some (.int (-1 : Int32))) m1) ∧ (¬ v2 = 0 → Ans m 4 (some (.int (m1.1 1 1))) m1))) 13 [(0, .ref (ad 1)), (1, .int v), (2, .int (nI (4 - k)))] [] w := by
    intro k
    induction k with
    | zero =>
      intro _ w hw hs
      exact g_X10_add_13 ⟨fun _ => ⟨1, rfl, fun h => absurd h (by decide), fun _ => ⟨by rw [hw]; rfl, hs⟩⟩, fun h => absurd (by decide) h⟩
    | succ k ih =>
      intro hk w hw hs
      have hlt : nI (4 - (k + 1)) < 4 := by
        have : k = 0 ∨ k = 1 ∨ k = 2 ∨ k = 3 := by omega
        rcases this with rfl | rfl | rfl | rfl <;> decide
      refine g_X10_add_13 ⟨fun h1 => absurd h1 (Int32.not_le.mpr hlt), fun _ => ⟨by rw [hw]; exact vp_in_nI (by omega) (by omega), ?_⟩⟩
      have e : nI (4 - (k + 1)) + 1 = nI (4 - k) := by rw [nI_1, show 4 - (k + 1) + 1 = 4 - k by omega]
      rw [e]
      exact ih (by omega) _ (by simp [uI, hw]; rw [nI_1]; congr 1; omega) ((hs.i (by decide)).i (by decide))
  have := step 4 (Nat.le_refl 4) m (by rw [h]; rfl) Sm.rf
  exact this
end P1
