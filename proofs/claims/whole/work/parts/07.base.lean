theorem good_tbl {x : Cond} (h : x ∈ TW) : GoodIn TW (x :: TW) := by
  intro w hw
  rcases List.mem_cons.mp hw with rfl | hw
  · exact ⟨h, good_of_word (List.mem_filter.mp h).2⟩
  · exact ⟨hw, good_of_word (List.mem_filter.mp hw).2⟩
/-! THE WORLD: what the cells hold, by the number of the cell and the place in it: ints, longs, references (as numbers of cells) -/
abbrev Wm : Type := (Nat → Nat → Int32) × (Nat → Nat → Int64) × (Nat → Nat → Option Nat)
def uI (m : Wm) (a k : Nat) (v : Int32) : Wm := (fun b j => if b = a ∧ j = k then v else m.1 b j, m.2)
def uL (m : Wm) (a k : Nat) (v : Int64) : Wm := (m.1, fun b j => if b = a ∧ j = k then v else m.2.1 b j, m.2.2)
def uR (m : Wm) (a k : Nat) (v : Option Nat) : Wm := (m.1, m.2.1, fun b j => if b = a ∧ j = k then v else m.2.2 b j)
abbrev Ent : Type := (Nat × List Nat) ⊕ (Nat × Nat)
def fldV (ad : Nat → Nat) (m : Wm) (a k c : Nat) : Value := match c with
  | 0 => .int (m.1 a k)
  | 1 => .long (m.2.1 a k)
  | 2 => va_rf ((m.2.2 a k).map ad)
  | t + 3 => .ref (ad t)
def fldVs (ad : Nat → Nat) (m : Wm) (a : Nat) (cs : List Nat) : List Value := cs.mapIdx (fun k c => fldV ad m a k c)
def arrV' (ad : Nat → Nat) (m : Wm) (a ty n : Nat) : vp_A := if ty = 4 then (n, .inr (.inl (m.2.1 a))) else if ty < 4 then (n, .inl (m.1 a)) else (n, .inr (.inr (.inr (.inr (fun j => (m.2.2 a j).map ad)))))
def cellE (ad : Nat → Nat) (cA : Nat → ClassId) (m : Wm) (a : Nat) (e : Ent) : va_E := match e with
  | .inl o => .inr (o.1, fldVs ad m a o.2)
  | .inr r => .inl (cA r.1, arrV' ad m a r.1 r.2)
def cellsOf (lay : List Ent) (ad : Nat → Nat) (cA : Nat → ClassId) (m : Wm) : va_W := lay.mapIdx (fun i e => (ad i, cellE ad cA m i e))
theorem cells_at {lay : List Ent} {ad : Nat → Nat} {cA : Nat → ClassId} {m : Wm} {a : Nat} {e : Ent} (h : lay[a]? = some e) : (cellsOf lay ad cA m)[a]? = some (ad a, cellE ad cA m a e) := by
  simp [cellsOf, List.getElem?_mapIdx, h]
theorem cells_adr {lay : List Ent} {ad : Nat → Nat} {cA : Nat → ClassId} {m : Wm} {a : Nat} {q : Nat × va_E} (h : (cellsOf lay ad cA m)[a]? = some q) : q.1 = ad a ∧ ∃ e, lay[a]? = some e := by
  simp only [cellsOf, List.getElem?_mapIdx] at h
  cases hl : lay[a]? with
  | none => rw [hl] at h; cases h
  | some e => rw [hl] at h; cases h; exact ⟨rfl, e, rfl⟩
theorem fldVs_at {ad : Nat → Nat} {m : Wm} {a k c : Nat} {cs : List Nat} (h : cs[k]? = some c) : (fldVs ad m a cs)[k]? = some (fldV ad m a k c) := by
  simp [fldVs, List.getElem?_mapIdx, h]
theorem fldVs_len {ad : Nat → Nat} {m : Wm} {a : Nat} {cs : List Nat} : (fldVs ad m a cs).length = cs.length := by simp [fldVs]
theorem fldV_frame {ad : Nat → Nat} {m m' : Wm} {a k c : Nat} (h1 : m'.1 a k = m.1 a k) (h2 : m'.2.1 a k = m.2.1 a k) (h3 : m'.2.2 a k = m.2.2 a k) : fldV ad m' a k c = fldV ad m a k c := by
  unfold fldV
  split <;> simp_all
/-- a cell that a step doesn't touch -/
theorem cellE_frame {ad : Nat → Nat} {cA : Nat → ClassId} {m m' : Wm} {a : Nat} {e : Ent} (h1 : m'.1 a = m.1 a) (h2 : m'.2.1 a = m.2.1 a) (h3 : m'.2.2 a = m.2.2 a) : cellE ad cA m' a e = cellE ad cA m a e := by
  unfold cellE
  split
  · rename_i o
    have : fldVs ad m' a o.2 = fldVs ad m a o.2 := by
      unfold fldVs
      congr 1
      funext k c
      exact fldV_frame (by rw [h1]) (by rw [h2]) (by rw [h3])
    rw [this]
  · unfold arrV'
    rw [h1, h2, h3]
theorem cells_set {lay : List Ent} {ad : Nat → Nat} {cA : Nat → ClassId} {m m' : Wm} {a : Nat} {e : Ent} {x : va_E} (he : lay[a]? = some e) (hx : cellE ad cA m' a e = x)
    (hf : ∀ b, b ≠ a → m'.1 b = m.1 b ∧ m'.2.1 b = m.2.1 b ∧ m'.2.2 b = m.2.2 b) : (cellsOf lay ad cA m).set a (ad a, x) = cellsOf lay ad cA m' := by
  apply List.ext_getElem?
  intro i
  rw [List.getElem?_set]
  by_cases hi : a = i
  · subst hi
    have hlt : a < (cellsOf lay ad cA m).length := by
      have := (List.getElem?_eq_some_iff.mp (cells_at (ad := ad) (cA := cA) (m := m) he)).1
      exact this
    rw [if_pos rfl, if_pos hlt, cells_at he, hx]
  · rw [if_neg hi]
    simp only [cellsOf, List.getElem?_mapIdx]
    cases hl : lay[i]? with
    | none => rfl
    | some e' =>
      obtain ⟨h1, h2, h3⟩ := hf i (fun h => hi h.symm)
      simp only [Option.map_some]
      rw [cellE_frame h1 h2 h3]
theorem set_int {lay : List Ent} {ad : Nat → Nat} {cA : Nat → ClassId} {m : Wm} {a k ci : Nat} {cs : List Nat} {v : Int32} (he : lay[a]? = some (.inl (ci, cs))) (hc : cs[k]? = some 0) :
    (cellsOf lay ad cA m).set a (ad a, .inr (ci, (fldVs ad m a cs).set k (.int v))) = cellsOf lay ad cA (uI m a k v) := by
  refine cells_set he ?_ (fun b hb => ⟨?_, rfl, rfl⟩)
  · show Sum.inr (ci, fldVs ad (uI m a k v) a cs) = _
    congr 2
    apply List.ext_getElem?
    intro i
    rw [List.getElem?_set]
    by_cases hi : k = i
    · subst hi
      rw [if_pos rfl, fldVs_at hc, if_pos (by rw [fldVs_len]; exact (List.getElem?_eq_some_iff.mp hc).1)]
      simp [fldV, uI]
    · rw [if_neg hi]
      simp only [fldVs, List.getElem?_mapIdx]
      cases hl : cs[i]? with
      | none => rfl
      | some c => exact congrArg some (fldV_frame (by simp [uI, Ne.symm hi]) rfl rfl)
  · funext j; simp [uI, hb]
theorem set_long {lay : List Ent} {ad : Nat → Nat} {cA : Nat → ClassId} {m : Wm} {a k ci : Nat} {cs : List Nat} {v : Int64} (he : lay[a]? = some (.inl (ci, cs))) (hc : cs[k]? = some 1) :
    (cellsOf lay ad cA m).set a (ad a, .inr (ci, (fldVs ad m a cs).set k (.long v))) = cellsOf lay ad cA (uL m a k v) := by
  refine cells_set he ?_ (fun b hb => ⟨rfl, ?_, rfl⟩)
  · show Sum.inr (ci, fldVs ad (uL m a k v) a cs) = _
    congr 2
    apply List.ext_getElem?
    intro i
    rw [List.getElem?_set]
    by_cases hi : k = i
    · subst hi
      rw [if_pos rfl, fldVs_at hc, if_pos (by rw [fldVs_len]; exact (List.getElem?_eq_some_iff.mp hc).1)]
      simp [fldV, uL]
    · rw [if_neg hi]
      simp only [fldVs, List.getElem?_mapIdx]
      cases hl : cs[i]? with
      | none => rfl
      | some c => exact congrArg some (fldV_frame rfl (by simp [uL, Ne.symm hi]) rfl)
  · funext j; simp [uL, hb]
theorem set_ref {lay : List Ent} {ad : Nat → Nat} {cA : Nat → ClassId} {m : Wm} {a k ci b : Nat} {cs : List Nat} (he : lay[a]? = some (.inl (ci, cs))) (hc : cs[k]? = some 2) :
    (cellsOf lay ad cA m).set a (ad a, .inr (ci, (fldVs ad m a cs).set k (.ref (ad b)))) = cellsOf lay ad cA (uR m a k (some b)) := by
  refine cells_set he ?_ (fun b hb => ⟨rfl, rfl, ?_⟩)
  · show Sum.inr (ci, fldVs ad (uR m a k (some b)) a cs) = _
    congr 2
    apply List.ext_getElem?
    intro i
    rw [List.getElem?_set]
    by_cases hi : k = i
    · subst hi
      rw [if_pos rfl, fldVs_at hc, if_pos (by rw [fldVs_len]; exact (List.getElem?_eq_some_iff.mp hc).1)]
      simp [fldV, uR, va_rf]
    · rw [if_neg hi]
      simp only [fldVs, List.getElem?_mapIdx]
      cases hl : cs[i]? with
      | none => rfl
      | some c => exact congrArg some (fldV_frame rfl rfl (by simp [uR, Ne.symm hi]))
  · funext j; simp [uR, hb]
theorem set_arI {lay : List Ent} {ad : Nat → Nat} {cA : Nat → ClassId} {m : Wm} {a ty n k : Nat} {v : Int32} (he : lay[a]? = some (.inr (ty, n))) (ht : ty < 4) :
    (cellsOf lay ad cA m).set a (ad a, .inl (cA ty, n, .inl (upd (m.1 a) k v))) = cellsOf lay ad cA (uI m a k v) := by
  refine cells_set he ?_ (fun b hb => ⟨?_, rfl, rfl⟩)
  · show Sum.inl (cA ty, arrV' ad (uI m a k v) a ty n) = _
    unfold arrV'
    rw [if_neg (by omega), if_pos ht]
    congr 4
    funext j
    simp [uI, upd]
  · funext j; simp [uI, hb]
theorem set_arL {lay : List Ent} {ad : Nat → Nat} {cA : Nat → ClassId} {m : Wm} {a n k : Nat} {v : Int64} (he : lay[a]? = some (.inr (4, n))) :
    (cellsOf lay ad cA m).set a (ad a, .inl (cA 4, n, .inr (.inl (vp_updL (m.2.1 a) k v)))) = cellsOf lay ad cA (uL m a k v) := by
  refine cells_set he ?_ (fun b hb => ⟨rfl, ?_, rfl⟩)
  · show Sum.inl (cA 4, arrV' ad (uL m a k v) a 4 n) = _
    unfold arrV'
    rw [if_pos rfl]
    congr 5
    funext j
    simp [uL, vp_updL]
  · funext j; simp [uL, hb]
theorem arI_at {lay : List Ent} {ad : Nat → Nat} {cA : Nat → ClassId} {m : Wm} {a ty n : Nat} (he : lay[a]? = some (.inr (ty, n))) (ht : ty < 4) : (cellsOf lay ad cA m)[a]? = some (ad a, .inl (cA ty, n, .inl (m.1 a))) := by
  rw [cells_at he]
  show some (ad a, Sum.inl (cA ty, arrV' ad m a ty n)) = _
  unfold arrV'
  rw [if_neg (by omega), if_pos ht]
theorem arL_at {lay : List Ent} {ad : Nat → Nat} {cA : Nat → ClassId} {m : Wm} {a n : Nat} (he : lay[a]? = some (.inr (4, n))) : (cellsOf lay ad cA m)[a]? = some (ad a, .inl (cA 4, n, .inr (.inl (m.2.1 a)))) := by
  rw [cells_at he]; rfl
theorem arR_at {lay : List Ent} {ad : Nat → Nat} {cA : Nat → ClassId} {m : Wm} {a ty n : Nat} (he : lay[a]? = some (.inr (ty, n))) (ht : 4 < ty) : (cellsOf lay ad cA m)[a]? = some (ad a, .inl (cA ty, n, .inr (.inr (.inr (.inr (fun j => (m.2.2 a j).map ad)))))) := by
  rw [cells_at he]
  show some (ad a, Sum.inl (cA ty, arrV' ad m a ty n)) = _
  unfold arrV'
  rw [if_neg (by omega), if_neg (by omega)]
theorem ob_at {lay : List Ent} {ad : Nat → Nat} {cA : Nat → ClassId} {m : Wm} {a ci : Nat} {cs : List Nat} (he : lay[a]? = some (.inl (ci, cs))) : (cellsOf lay ad cA m)[a]? = some (ad a, .inr (ci, fldVs ad m a cs)) := cells_at he
def tysOf (cA : Nat → ClassId) : List (ClassId × FieldType) := [(cA 0, .int), (cA 1, .byte), (cA 2, .char), (cA 3, .boolean), (cA 4, .long), (cA 5, .object RX0), (cA 6, .object RX8)]
/-- the addresses are the same whatever the cells hold -/
theorem cells_D {lay : List Ent} {ad : Nat → Nat} {cA : Nat → ClassId} {m m' : Wm} {A : Nat → Prop} (h : va_D A (cellsOf lay ad cA m)) : va_D A (cellsOf lay ad cA m') := by
  have at' : ∀ (k : Nat) (q : Nat × va_E), (cellsOf lay ad cA m')[k]? = some q → ∃ q', (cellsOf lay ad cA m)[k]? = some q' ∧ q'.1 = q.1 := by
    intro k q hq
    obtain ⟨h1, e, h2⟩ := cells_adr hq
    exact ⟨_, cells_at h2, h1.symm⟩
  refine ⟨fun i j p q hp hq hpq => ?_, fun k q hq => ?_⟩
  · obtain ⟨p', hp', e1⟩ := at' i p hp
    obtain ⟨q', hq', e2⟩ := at' j q hq
    exact h.1 i j p' q' hp' hq' (by rw [e1, e2, hpq])
  · obtain ⟨q', hq', e⟩ := at' k q hq
    rw [← e]
    exact h.2 k q' hq'
theorem cells_A {lay : List Ent} {ad : Nat → Nat} {cA : Nat → ClassId} {m m' : Wm} {sz q : Nat} (h : va_A (cellsOf lay ad cA m) sz q) : va_A (cellsOf lay ad cA m') sz q := by
  rcases h with ⟨k, e, h⟩ | h
  · obtain ⟨h1, e', h2⟩ := cells_adr h
    exact Or.inl ⟨k, cellE ad cA m' k e', by rw [cells_at h2]; rw [show q = ad k from h1]⟩
  · exact Or.inr h

/-- the cells of both objects and of the law, in the order in which they come: objects (class, what a field holds: 0 an int, 1 a long, 2 a reference that changes, t + 3 the cell t for good), arrays (0 int, 1 byte, 2 char, 3 boolean, 4 long, 5 Kept, 6 Standing; length) -/
def LAY : List Ent := [.inl (11, [4, 6, 18, 24, 29, 34, 136, 159, 169, 2, 2, 0, 149, 150, 151, 0, 152, 153, 0]), .inl (10, [5, 0]), .inr (2, 80), .inl (1, [7, 2, 2, 0, 0, 0, 0, 0]), .inr (0, 5), .inl (5, [9, 10, 11, 12, 0, 0, 0, 0, 0]), .inr (0, 40), .inr (0, 40), .inr (0, 40), .inr (3, 5), .inl (5, [14, 15, 16, 17, 0, 0, 0, 0, 0]), .inr (0, 40), .inr (0, 40), .inr (0, 40), .inr (3, 5), .inl (4, [19, 0, 0, 0, 0, 0, 0, 0]), .inl (8, [20, 21, 22, 23, 0]), .inr (0, 32), .inr (0, 8), .inr (0, 8), .inr (0, 8), .inl (8, [25, 26, 27, 28, 0]), .inr (0, 32), .inr (0, 8), .inr (0, 8), .inr (0, 8), .inl (8, [30, 31, 32, 33, 0]), .inr (0, 32), .inr (0, 8), .inr (0, 8), .inr (0, 8), .inl (2, [35, 0, 0]), .inr (6, 20), .inl (8, [37, 38, 39, 40, 0]), .inr (0, 32), .inr (0, 8), .inr (0, 8), .inr (0, 8), .inl (8, [42, 43, 44, 45, 0]), .inr (0, 32), .inr (0, 8), .inr (0, 8), .inr (0, 8), .inl (8, [47, 48, 49, 50, 0]), .inr (0, 32), .inr (0, 8), .inr (0, 8), .inr (0, 8), .inl (8, [52, 53, 54, 55, 0]), .inr (0, 32), .inr (0, 8), .inr (0, 8), .inr (0, 8), .inl (8, [57, 58, 59, 60, 0]), .inr (0, 32), .inr (0, 8), .inr (0, 8), .inr (0, 8), .inl (8, [62, 63, 64, 65, 0]), .inr (0, 32), .inr (0, 8), .inr (0, 8), .inr (0, 8), .inl (8, [67, 68, 69, 70, 0]), .inr (0, 32), .inr (0, 8), .inr (0, 8), .inr (0, 8), .inl (8, [72, 73, 74, 75, 0]), .inr (0, 32), .inr (0, 8), .inr (0, 8), .inr (0, 8), .inl (8, [77, 78, 79, 80, 0]), .inr (0, 32), .inr (0, 8), .inr (0, 8), .inr (0, 8), .inl (8, [82, 83, 84, 85, 0]), .inr (0, 32), .inr (0, 8), .inr (0, 8), .inr (0, 8), .inl (8, [87, 88, 89, 90, 0]), .inr (0, 32), .inr (0, 8), .inr (0, 8), .inr (0, 8), .inl (8, [92, 93, 94, 95, 0]), .inr (0, 32), .inr (0, 8), .inr (0, 8), .inr (0, 8), .inl (8, [97, 98, 99, 100, 0]), .inr (0, 32), .inr (0, 8), .inr (0, 8), .inr (0, 8), .inl (8, [102, 103, 104, 105, 0]), .inr (0, 32), .inr (0, 8), .inr (0, 8), .inr (0, 8), .inl (8, [107, 108, 109, 110, 0]), .inr (0, 32), .inr (0, 8), .inr (0, 8), .inr (0, 8), .inl (8, [112, 113, 114, 115, 0]), .inr (0, 32), .inr (0, 8), .inr (0, 8), .inr (0, 8), .inl (8, [117, 118, 119, 120, 0]), .inr (0, 32), .inr (0, 8), .inr (0, 8), .inr (0, 8), .inl (8, [122, 123, 124, 125, 0]), .inr (0, 32), .inr (0, 8), .inr (0, 8), .inr (0, 8), .inl (8, [127, 128, 129, 130, 0]), .inr (0, 32), .inr (0, 8), .inr (0, 8), .inr (0, 8), .inl (8, [132, 133, 134, 135, 0]), .inr (0, 32), .inr (0, 8), .inr (0, 8), .inr (0, 8), .inr (5, 2), .inl (3, [138, 139, 140, 141, 142, 0, 0, 0, 0]), .inr (0, 48), .inr (0, 48), .inr (0, 48), .inr (0, 13), .inr (0, 8), .inl (3, [144, 145, 146, 147, 148, 0, 0, 0, 0]), .inr (0, 48), .inr (0, 48), .inr (0, 48), .inr (0, 13), .inr (0, 8), .inr (0, 12), .inr (0, 12), .inr (0, 12), .inr (0, 8), .inr (4, 10), .inl (9, [155, 156, 157, 158, 0, 0]), .inr (4, 3000), .inr (4, 3000), .inr (0, 8192), .inr (0, 3000), .inl (6, [154, 160, 165, 166, 167, 168, 0]), .inl (8, [161, 162, 163, 164, 0]), .inr (0, 32), .inr (0, 8), .inr (0, 8), .inr (0, 8), .inr (0, 8), .inr (0, 3000), .inr (0, 3000), .inr (0, 3000), .inl (7, [154, 170, 175, 0, 0, 1]), .inl (8, [171, 172, 173, 174, 0]), .inr (0, 32), .inr (0, 8), .inr (0, 8), .inr (0, 8), .inr (0, 8), .inl (0, [177, 182, 0, 0, 0]), .inl (8, [178, 179, 180, 181, 0]), .inr (0, 32), .inr (0, 8), .inr (0, 8), .inr (0, 8), .inr (0, 5), .inl (0, [184, 189, 0, 0, 0]), .inl (8, [185, 186, 187, 188, 0]), .inr (0, 32), .inr (0, 8), .inr (0, 8), .inr (0, 8), .inr (0, 5), .inl (12, [0, 0, 191, 192, 193, 194, 195, 196, 0, 197, 0, 0, 0, 198, 0, 199, 0, 0, 2, 0, 0, 0, 0, 200, 201, 202, 203, 0, 0, 204, 0, 205, 0, 0, 0, 0, 206, 207, 208, 209, 210, 211, 212, 0, 213, 0, 0, 214, 0, 0, 215, 216, 0, 0, 217, 218, 219]), .inr (0, 32), .inr (3, 8), .inr (0, 8), .inr (0, 8), .inr (0, 8), .inr (0, 5), .inr (0, 160), .inr (1, 80), .inr (4, 16), .inr (0, 32), .inr (3, 8), .inr (0, 160), .inr (1, 40), .inr (0, 1140), .inr (0, 57), .inr (0, 9), .inr (0, 57), .inr (4, 3000), .inr (4, 3000), .inr (0, 3000), .inr (0, 3000), .inr (0, 3000), .inr (0, 8192), .inr (0, 399), .inr (0, 3000), .inr (0, 36), .inr (0, 142), .inr (3, 2), .inr (0, 2), .inr (4, 1)]

/-- the links between classes of one nest -/
def NW : List (String × Nat × MethodName × String) := [(RX11, 11, yX10_init, RX11), (RX11, 18, yX1_init, RX11), (RX1, 17, yX5_init, RX11), (RX11, 25, yX4_init, RX11), (RX4, 11, yX8_init, RX11), (RX11, 32, yX8_init, RX11), (RX2, 22, yX8_init, RX11), (RX11, 55, yX3_init, RX11), (RX11, 92, yX9_init, RX11), (RX6, 11, yX8_init, RX11), (RX7, 11, yX8_init, RX11), (RX11, 109, yX0_init, RX11), (RX0, 11, yX8_init, RX11), (RX5, 102, yX11_clamp, RX11), (RX1, 63, yX11_clamp, RX11)]
def NWs (U : State) : Prop := (∀ q ∈ NW, va_Nw (.methodLinkNest q.1 q.2.1 q.2.2.1 q.2.2.2) U) ∧ va_AO RX0 U ∧ va_AO RX8 U
theorem NWs.same {u U : State} (h : u.vm = U.vm) (hZ : NWs u) : NWs U := ⟨fun q hq => va_Nw.same rfl h (hZ.1 q hq), va_AO.moved (h ▸ Vm.Alike.refl u.vm) hZ.2.1, va_AO.moved (h ▸ Vm.Alike.refl u.vm) hZ.2.2⟩
theorem NWs.warm {s U : State} (hW : s.WarmedH U.vm) (hZ : NWs s) : NWs U := ⟨fun q hq => va_Nw.warmM hW (hZ.1 q hq), va_AO.moved hW.alike hZ.2.1, va_AO.moved hW.alike hZ.2.2⟩

abbrev EB : Type := (State → (Nat → Prop) → Nat → Prop) × Nat × Nat × List Ent
/-- nothing more is known, nothing may be made -/
abbrev E0l (lay : List Ent) : EB := (fun _ _ _ => True, 0, 0, lay)
abbrev E0 : EB := E0l LAY
abbrev MI : Type := MethodName × ByteArray × Nat × String × Option FieldType
/-- a method's own end -/
def RetAt (μ : MI) (pc : Nat) (v : Option Value) : Prop :=
  (v = none ∧ μ.2.2.2.2 = none ∧ decode μ.2.1 pc = .ok (.return_, 1)) ∨
  (∃ x ty, v = some (.int x) ∧ μ.2.2.2.2 = some ty ∧ narrow ty (.int x) = .int x ∧ decode μ.2.1 pc = .ok (.ireturn, 1)) ∨
  (∃ x, v = some (.long x) ∧ μ.2.2.2.2 = some .long ∧ decode μ.2.1 pc = .ok (.lreturn, 1))
/-- what stands around a method while it runs: its code, the tables' words, the room that is left (d calls deep), and that whatever comes behind its end comes to Qz -/
def CX (lay : List Ent) (ad : Nat → Nat) (E : EB) (μ : MI) (d : Nat) (Q : Option Value → Wm → Prop) (p : Program) (l : Launch) (e : Env) (R : Room) (s : State) (mt : MethodId) (args : Array Value) (below : List Frame) (meth : Method) (c : Code) (cs sl : Nat) (G : va_G) (cA : Nat → ClassId) (A : Nat → Prop) (Qz : State → Prop) : Prop :=
  CallFix p mt c μ.2.1 μ.2.2.1 s args TW μ.2.2.2.1 ∧ va_K G vwCl (tysOf cA) s ∧ (∀ q, s.heap.size ≤ q → A q) ∧ (E.1 s A cs ∧ (μ.1.name = "<init>" → meth.name = "<init>") ∧ NWs s) ∧ (d ≤ R.frames ∧ 41 * d ≤ R.locals ∧ cs + E.2.1 ≤ R.cells ∧ sl + E.2.2.1 ≤ R.slots) ∧
  ∀ (v : Option Value) (m' : Wm) (H' : Heap) (locs' : List Loc) (pc' : Nat) (ls' : Array Slot) (cs' sl' : Nat), RetAt μ pc' v → cs' ≤ R.cells → sl' ≤ R.slots → Q v m' → va_P G vwCl (cellsOf E.2.2.2 ad cA m') H' → va_D A (cellsOf E.2.2.2 ad cA m') → va_S A s.heap H' locs' → W p l e R s mt args below meth c H' locs' cs' sl' Qz (F0 mt pc' ls' v.toList)
/-- from this place of the method, with these locals, this stack and this world, it comes to its end with Q -/
def AWl (lay : List Ent) (ad : Nat → Nat) (E : EB) (μ : MI) (d : Nat) (Q : Option Value → Wm → Prop) (pc : Nat) (L : List (Nat × Value)) (st : List Value) (m : Wm) : Prop :=
  ∀ (p : Program) (l : Launch) (e : Env) (R : Room) (s : State) (mt : MethodId) (args : Array Value) (below : List Frame) (meth : Method) (c : Code) (H : Heap) (locs : List Loc) (cs sl : Nat) (G : va_G) (cA : Nat → ClassId) (A : Nat → Prop) (ls : Array Slot) (Qz : State → Prop),
    CX lay ad E μ d Q p l e R s mt args below meth c cs sl G cA A Qz → va_P G vwCl (cellsOf lay ad cA m) H → va_D A (cellsOf lay ad cA m) → va_S A s.heap H locs → lv_has ls μ.2.2.1 L → W p l e R s mt args below meth c H locs cs sl Qz (F0 mt pc ls st)
def rmd (d : Nat) : Room := { frames := d, cells := 0, slots := 0, locals := 41 * d }
/-- how a method's call ends: its answer and the world then have Q', what isn't the world's stays -/
def QC (lay : List Ent) (ad : Nat → Nat) (G : va_G) (cA : Nat → ClassId) (Q : Option Value → Wm → Prop) (A : Nat → Prop) : Array Value → State → Outcome → State → Prop := fun _ st oc t => (∃ (v : Option Value) (m' : Wm), oc = .returned v ∧ Q v m' ∧ va_P G vwCl (cellsOf lay ad cA m') t.heap) ∧ va_F A st t
def PCt (lay : List Ent) (ad : Nat → Nat) (G : va_G) (cA : Nat → ClassId) (m : Wm) (sz : Nat) : State → Prop := fun U => U.heap.size = sz ∧ va_P G vwCl (cellsOf lay ad cA m) U.heap ∧ va_K G vwCl (tysOf cA) U ∧ va_D (fun _ => True) (cellsOf lay ad cA m) ∧ NWs U
/-- a method's contract at these arguments in this world, with room d calls deep -/
def Ctl (lay : List Ent) (ad : Nat → Nat) (μ : MI) (d : Nat) (args : List Value) (m : Wm) (Q : Option Value → Wm → Prop) : Prop :=
  ∀ (l : Launch) (G : va_G) (cA : Nat → ClassId) (sz : Nat), Met l μ.1 (.code μ.1 μ.2.1 μ.2.2.1 μ.2.2.2.2 :: TW) (rmd d) (va_Pc args (PCt lay ad G cA m sz)) (QC lay ad G cA Q (va_A (cellsOf lay ad cA m) sz)) 0 0 (va_A (cellsOf lay ad cA m) sz)
/-- the walks over the whole layout -/
abbrev AW (ad : Nat → Nat) (E : EB) (μ : MI) (d : Nat) (Q : Option Value → Wm → Prop) (pc : Nat) (L : List (Nat × Value)) (st : List Value) (m : Wm) : Prop := AWl LAY ad E μ d Q pc L st m
abbrev Ct (ad : Nat → Nat) (μ : MI) (d : Nat) (args : List Value) (m : Wm) (Q : Option Value → Wm → Prop) : Prop := Ctl LAY ad μ d args m Q
theorem aw_ret {lay : List Ent} {ad : Nat → Nat} {E : EB} {μ : MI} {d : Nat} {Q : Option Value → Wm → Prop} {pc : Nat} {L : List (Nat × Value)} {m : Wm} {v : Option Value} (hL : E.2.2.2 = lay) (hr : RetAt μ pc v) (hq : Q v m) : AWl lay ad E μ d Q pc L v.toList m := by
  subst hL
  exact   fun p l e R s mt args below meth c H locs cs sl G cA A ls Qz C hP hD hS hl => C.2.2.2.2.2 v m H locs pc ls cs sl hr (Nat.le_trans (Nat.le_add_right _ _) C.2.2.2.2.1.2.2.1) (Nat.le_trans (Nat.le_add_right _ _) C.2.2.2.2.1.2.2.2) hq hP hD hS
theorem Ct.of {lay : List Ent} {ad : Nat → Nat} {μ : MI} {d : Nat} {args : List Value} {m : Wm} {Q : Option Value → Wm → Prop} (hy : plainName μ.1.cls = true) (ho : μ.2.2.2.1 = μ.1.cls) (hn : (lg_sl args).length ≤ μ.2.2.1) (h : AWl lay ad (E0l lay) μ d Q 0 (lv_args 0 args) [] m) : Ctl lay ad μ d args m Q := by
  intro l G cA sz
  refine Met.ofW (cc := μ.2.1) (maxL := μ.2.2.1) (ret := μ.2.2.2.2) hy rfl ?_
  intro p e s mt args' below meth c s₁ B hml hv
  obtain ⟨rfl, hsz, hP, hK, hD0, hN⟩ := hv
  subst hsz
  have hts := atoms_spec (ws := .code μ.1 μ.2.1 μ.2.2.1 μ.2.2.2.2 :: TW) B.pre
  rw [lg_entry_eq]
  refine h p l e _ s mt _ below meth c s.heap [] 0 0 G cA (va_A (cellsOf lay ad cA m) s.heap.size) _ _ ⟨⟨B.exec, B.bytes, hml, by rw [ho]; exact findClass_of_methodNamed B.named, fun w hw => hts w (List.mem_cons_of_mem _ hw)⟩, hK, fun q hq => Or.inr hq, ⟨trivial, fun h => ((name_of_methodNamed B.named B.method).1).trans h, hN⟩, ⟨Nat.le_refl _, Nat.le_refl _, Nat.le_refl _, Nat.le_refl _⟩, ?_⟩ hP hD0.self va_S.rf (lv_entry args hn)
  intro v m' H' locs' pc' ls' cs' sl' hr hc1 hc2 hq hP' hD' hS'
  obtain rfl : cs' = 0 := Nat.le_zero.mp hc1
  obtain rfl : sl' = 0 := Nat.le_zero.mp hc2
  rcases hr with ⟨rfl, hret, hd⟩ | ⟨x, ty, rfl, hret, hnw, hd⟩ | ⟨x, rfl, hret, hd⟩
  · exact W.vret B.exec B.bytes (B.returns.trans hret) (fun t ht hW => ⟨⟨none, m', rfl, hq, by rw [ht]; exact hP'⟩, hS'.F ht⟩) hS'.2.2 hd B.notSynchronized
  · exact W.zret B.exec B.bytes (B.returns.trans hret) hnw (fun t ht hW => ⟨⟨_, m', rfl, hq, by rw [ht]; exact hP'⟩, hS'.F ht⟩) hS'.2.2 hd B.notSynchronized
  · exact W.lret B.exec B.bytes (B.returns.trans hret) (fun t ht hW => ⟨⟨_, m', rfl, hq, by rw [ht]; exact hP'⟩, hS'.F ht⟩) hS'.2.2 hd B.notSynchronized
theorem AW.mono {lay : List Ent} {ad : Nat → Nat} {E : EB} {μ : MI} {d : Nat} {Q Q' : Option Value → Wm → Prop} {pc : Nat} {L : List (Nat × Value)} {st : List Value} {m : Wm} (h : AWl lay ad E μ d Q pc L st m) (hq : ∀ v m', Q v m' → Q' v m') : AWl lay ad E μ d Q' pc L st m :=
  fun p l e R s mt args below meth c H locs cs sl G cA A ls Qz C hP hD hS hl => h p l e R s mt args below meth c H locs cs sl G cA A ls Qz ⟨C.1, C.2.1, C.2.2.1, C.2.2.2.1, C.2.2.2.2.1, fun v m' H' locs' pc' ls' cs' sl' hr h2 h3 h1 => C.2.2.2.2.2 v m' H' locs' pc' ls' cs' sl' hr h2 h3 (hq v m' h1)⟩ hP hD hS hl
theorem Ct.mono {lay : List Ent} {ad : Nat → Nat} {μ : MI} {d : Nat} {args : List Value} {m : Wm} {Q Q' : Option Value → Wm → Prop} (h : Ctl lay ad μ d args m Q) (hq : ∀ v m', Q v m' → Q' v m') : Ctl lay ad μ d args m Q' := by
  intro l G cA sz p e ha hc hk s mt args' below hf happ hP hK
  obtain ⟨t, o, h1, h2, h3, ⟨⟨v, m', e1, e2, e3⟩, e4⟩, h5⟩ := h l G cA sz p e ha hc hk s mt args' below hf happ hP hK
  exact ⟨t, o, h1, h2, h3, ⟨⟨v, m', e1, hq v m' e2, e3⟩, e4⟩, h5⟩
section AWR
variable {lay : List Ent} {ad : Nat → Nat} {E : EB} {μ : MI} {d : Nat} {Q : Option Value → Wm → Prop} {pc : Nat} {L : List (Nat × Value)} {rest st : List Value} {m : Wm}
theorem aw_sub (ks : List Nat) {L' : List (Nat × Value)} (hL : lv_pick L ks = L') (k : AWl lay ad E μ d Q pc L' st m) : AWl lay ad E μ d Q pc L st m := fun p l e R s mt args below meth c H locs cs sl G cA A ls Qz C hP hD hS hl => k p l e R s mt args below meth c H locs cs sl G cA A ls Qz C hP hD hS (lv_sub hl ks hL)
theorem aw_eq {L' : List (Nat × Value)} {st' : List Value} {m' : Wm} (k : AWl lay ad E μ d Q pc L' st' m') (hL : L = L') (hs : st = st') (hm : m = m') : AWl lay ad E μ d Q pc L st m := by subst hL hs hm; exact k

theorem aw_iconst {n : Int} {v : Int32} (hd : decode μ.2.1 pc = .ok (.iconst n, 1)) (hv : Int32.ofInt n = v) (k : AWl lay ad E μ d Q (pc + 1) L (.int v :: rest) m) : AWl lay ad E μ d Q pc L (rest) m := fun p l e R s mt args below meth c H locs cs sl G cA A ls Qz C hP hD hS hl => lv_iconst C.1.1 C.1.2.1 hd hv (k p l e R s mt args below meth c H locs cs sl G cA A ls Qz C hP hD hS hl)
theorem aw_bipush {n : Int} {v : Int32} (hd : decode μ.2.1 pc = .ok (.bipush n, 2)) (hv : (Int8.ofInt n).toInt32 = v) (k : AWl lay ad E μ d Q (pc + 2) L (.int v :: rest) m) : AWl lay ad E μ d Q pc L (rest) m := fun p l e R s mt args below meth c H locs cs sl G cA A ls Qz C hP hD hS hl => lv_bipush C.1.1 C.1.2.1 hd hv (k p l e R s mt args below meth c H locs cs sl G cA A ls Qz C hP hD hS hl)
theorem aw_sipush {n : Int} {v : Int32} (hd : decode μ.2.1 pc = .ok (.sipush n, 3)) (hv : (Int16.ofInt n).toInt32 = v) (k : AWl lay ad E μ d Q (pc + 3) L (.int v :: rest) m) : AWl lay ad E μ d Q pc L (rest) m := fun p l e R s mt args below meth c H locs cs sl G cA A ls Qz C hP hD hS hl => lv_sipush C.1.1 C.1.2.1 hd hv (k p l e R s mt args below meth c H locs cs sl G cA A ls Qz C hP hD hS hl)
theorem aw_lconst {n : Fin 2} {v : Int64} (hd : decode μ.2.1 pc = .ok (.lconst n, 1)) (hv : Int64.ofNat (n : Nat) = v) (k : AWl lay ad E μ d Q (pc + 1) L (.long v :: rest) m) : AWl lay ad E μ d Q pc L (rest) m := fun p l e R s mt args below meth c H locs cs sl G cA A ls Qz C hP hD hS hl => lv_lconst C.1.1 C.1.2.1 hd hv (k p l e R s mt args below meth c H locs cs sl G cA A ls Qz C hP hD hS hl)
theorem aw_iload_n {n : Fin 4} {i j : Nat} {x : Int32} (hd : decode μ.2.1 pc = .ok (.iload_n n, 1)) (hi : (n : Nat) = i) (hk : L[j]? = some (i, .int x)) (k : AWl lay ad E μ d Q (pc + 1) L (.int x :: rest) m) : AWl lay ad E μ d Q pc L (rest) m := fun p l e R s mt args below meth c H locs cs sl G cA A ls Qz C hP hD hS hl => lv_iload_n C.1.1 C.1.2.1 hd hi (lv_at hl j hk) (k p l e R s mt args below meth c H locs cs sl G cA A ls Qz C hP hD hS hl)
theorem aw_iload {i j : Nat} {x : Int32} (hd : decode μ.2.1 pc = .ok (.iload i, 2)) (hk : L[j]? = some (i, .int x)) (k : AWl lay ad E μ d Q (pc + 2) L (.int x :: rest) m) : AWl lay ad E μ d Q pc L (rest) m := fun p l e R s mt args below meth c H locs cs sl G cA A ls Qz C hP hD hS hl => lv_iload C.1.1 C.1.2.1 hd (lv_at hl j hk) (k p l e R s mt args below meth c H locs cs sl G cA A ls Qz C hP hD hS hl)
theorem aw_istore_n {n : Fin 4} {i : Nat} {x : Int32} {L' : List (Nat × Value)} (hd : decode μ.2.1 pc = .ok (.istore_n n, 1)) (hi : (n : Nat) = i) (hn : i < μ.2.2.1) (hf : (i, Value.int x) :: L.filter (fun q => !(q.1 == i) && !(q.1 + 1 == i && q.2.category == 2)) = L') (k : AWl lay ad E μ d Q (pc + 1) L' rest m) : AWl lay ad E μ d Q pc L (.int x :: rest) m := fun p l e R s mt args below meth c H locs cs sl G cA A ls Qz C hP hD hS hl => lv_istore_n C.1.1 C.1.2.1 hd hi hl hn hf (fun ls' hl' => k p l e R s mt args below meth c H locs cs sl G cA A ls' Qz C hP hD hS hl')
theorem aw_istore {i : Nat} {x : Int32} {L' : List (Nat × Value)} (hd : decode μ.2.1 pc = .ok (.istore i, 2)) (hn : i < μ.2.2.1) (hf : (i, Value.int x) :: L.filter (fun q => !(q.1 == i) && !(q.1 + 1 == i && q.2.category == 2)) = L') (k : AWl lay ad E μ d Q (pc + 2) L' rest m) : AWl lay ad E μ d Q pc L (.int x :: rest) m := fun p l e R s mt args below meth c H locs cs sl G cA A ls Qz C hP hD hS hl => lv_istore C.1.1 C.1.2.1 hd hl hn hf (fun ls' hl' => k p l e R s mt args below meth c H locs cs sl G cA A ls' Qz C hP hD hS hl')
theorem aw_lload_n {n : Fin 4} {i j : Nat} {x : Int64} (hd : decode μ.2.1 pc = .ok (.lload_n n, 1)) (hi : (n : Nat) = i) (hk : L[j]? = some (i, .long x)) (k : AWl lay ad E μ d Q (pc + 1) L (.long x :: rest) m) : AWl lay ad E μ d Q pc L (rest) m := fun p l e R s mt args below meth c H locs cs sl G cA A ls Qz C hP hD hS hl => lv_lload_n C.1.1 C.1.2.1 hd hi (lv_at hl j hk) (k p l e R s mt args below meth c H locs cs sl G cA A ls Qz C hP hD hS hl)
theorem aw_lload {i j : Nat} {x : Int64} (hd : decode μ.2.1 pc = .ok (.lload i, 2)) (hk : L[j]? = some (i, .long x)) (k : AWl lay ad E μ d Q (pc + 2) L (.long x :: rest) m) : AWl lay ad E μ d Q pc L (rest) m := fun p l e R s mt args below meth c H locs cs sl G cA A ls Qz C hP hD hS hl => lv_lload C.1.1 C.1.2.1 hd (lv_at hl j hk) (k p l e R s mt args below meth c H locs cs sl G cA A ls Qz C hP hD hS hl)
theorem aw_lstore_n {n : Fin 4} {i : Nat} {x : Int64} {L' : List (Nat × Value)} (hd : decode μ.2.1 pc = .ok (.lstore_n n, 1)) (hi : (n : Nat) = i) (hn : i + 1 < μ.2.2.1) (hf : (i, Value.long x) :: L.filter (fun q => !(q.1 == i) && (!(q.1 == i + 1) && !(q.1 + 1 == i && q.2.category == 2))) = L') (k : AWl lay ad E μ d Q (pc + 1) L' rest m) : AWl lay ad E μ d Q pc L (.long x :: rest) m := fun p l e R s mt args below meth c H locs cs sl G cA A ls Qz C hP hD hS hl => lv_lstore_n C.1.1 C.1.2.1 hd hi hl hn hf (fun ls' hl' => k p l e R s mt args below meth c H locs cs sl G cA A ls' Qz C hP hD hS hl')
theorem aw_lstore {i : Nat} {x : Int64} {L' : List (Nat × Value)} (hd : decode μ.2.1 pc = .ok (.lstore i, 2)) (hn : i + 1 < μ.2.2.1) (hf : (i, Value.long x) :: L.filter (fun q => !(q.1 == i) && (!(q.1 == i + 1) && !(q.1 + 1 == i && q.2.category == 2))) = L') (k : AWl lay ad E μ d Q (pc + 2) L' rest m) : AWl lay ad E μ d Q pc L (.long x :: rest) m := fun p l e R s mt args below meth c H locs cs sl G cA A ls Qz C hP hD hS hl => lv_lstore C.1.1 C.1.2.1 hd hl hn hf (fun ls' hl' => k p l e R s mt args below meth c H locs cs sl G cA A ls' Qz C hP hD hS hl')
theorem aw_aload_n {n : Fin 4} {i j : Nat} {x : Nat} (hd : decode μ.2.1 pc = .ok (.aload_n n, 1)) (hi : (n : Nat) = i) (hk : L[j]? = some (i, .ref x)) (k : AWl lay ad E μ d Q (pc + 1) L (.ref x :: rest) m) : AWl lay ad E μ d Q pc L (rest) m := fun p l e R s mt args below meth c H locs cs sl G cA A ls Qz C hP hD hS hl => lv_aload_n C.1.1 C.1.2.1 hd hi (lv_at hl j hk) (k p l e R s mt args below meth c H locs cs sl G cA A ls Qz C hP hD hS hl)
theorem aw_aload {i j : Nat} {x : Nat} (hd : decode μ.2.1 pc = .ok (.aload i, 2)) (hk : L[j]? = some (i, .ref x)) (k : AWl lay ad E μ d Q (pc + 2) L (.ref x :: rest) m) : AWl lay ad E μ d Q pc L (rest) m := fun p l e R s mt args below meth c H locs cs sl G cA A ls Qz C hP hD hS hl => lv_aload C.1.1 C.1.2.1 hd (lv_at hl j hk) (k p l e R s mt args below meth c H locs cs sl G cA A ls Qz C hP hD hS hl)
theorem aw_astore_n {n : Fin 4} {i : Nat} {x : Nat} {L' : List (Nat × Value)} (hd : decode μ.2.1 pc = .ok (.astore_n n, 1)) (hi : (n : Nat) = i) (hn : i < μ.2.2.1) (hf : (i, Value.ref x) :: L.filter (fun q => !(q.1 == i) && !(q.1 + 1 == i && q.2.category == 2)) = L') (k : AWl lay ad E μ d Q (pc + 1) L' rest m) : AWl lay ad E μ d Q pc L (.ref x :: rest) m := fun p l e R s mt args below meth c H locs cs sl G cA A ls Qz C hP hD hS hl => lv_astore_n C.1.1 C.1.2.1 hd hi hl hn hf (fun ls' hl' => k p l e R s mt args below meth c H locs cs sl G cA A ls' Qz C hP hD hS hl')
theorem aw_astore {i : Nat} {x : Nat} {L' : List (Nat × Value)} (hd : decode μ.2.1 pc = .ok (.astore i, 2)) (hn : i < μ.2.2.1) (hf : (i, Value.ref x) :: L.filter (fun q => !(q.1 == i) && !(q.1 + 1 == i && q.2.category == 2)) = L') (k : AWl lay ad E μ d Q (pc + 2) L' rest m) : AWl lay ad E μ d Q pc L (.ref x :: rest) m := fun p l e R s mt args below meth c H locs cs sl G cA A ls Qz C hP hD hS hl => lv_astore C.1.1 C.1.2.1 hd hl hn hf (fun ls' hl' => k p l e R s mt args below meth c H locs cs sl G cA A ls' Qz C hP hD hS hl')
theorem aw_iinc {i j : Nat} {n : Int} {x v : Int32} {L' : List (Nat × Value)} (hd : decode μ.2.1 pc = .ok (.iinc i n, 3)) (hk : L[j]? = some (i, .int x)) (hv : x + Int32.ofInt n = v) (hn : i < μ.2.2.1) (hf : (i, Value.int v) :: L.filter (fun q => !(q.1 == i) && !(q.1 + 1 == i && q.2.category == 2)) = L') (k : AWl lay ad E μ d Q (pc + 3) L' rest m) : AWl lay ad E μ d Q pc L rest m := fun p l e R s mt args below meth c H locs cs sl G cA A ls Qz C hP hD hS hl => lv_iinc C.1.1 C.1.2.1 hd hl hk hv hn hf (fun ls' hl' => k p l e R s mt args below meth c H locs cs sl G cA A ls' Qz C hP hD hS hl')
theorem aw_iadd {x y : Int32} (hd : decode μ.2.1 pc = .ok (.iadd, 1)) (k : AWl lay ad E μ d Q (pc + 1) L (.int (x + y) :: rest) m) : AWl lay ad E μ d Q pc L (.int y :: .int x :: rest) m := fun p l e R s mt args below meth c H locs cs sl G cA A ls Qz C hP hD hS hl => lv_iadd C.1.1 C.1.2.1 hd (k p l e R s mt args below meth c H locs cs sl G cA A ls Qz C hP hD hS hl)
theorem aw_isub {x y : Int32} (hd : decode μ.2.1 pc = .ok (.isub, 1)) (k : AWl lay ad E μ d Q (pc + 1) L (.int (x - y) :: rest) m) : AWl lay ad E μ d Q pc L (.int y :: .int x :: rest) m := fun p l e R s mt args below meth c H locs cs sl G cA A ls Qz C hP hD hS hl => lv_isub C.1.1 C.1.2.1 hd (k p l e R s mt args below meth c H locs cs sl G cA A ls Qz C hP hD hS hl)
theorem aw_imul {x y : Int32} (hd : decode μ.2.1 pc = .ok (.imul, 1)) (k : AWl lay ad E μ d Q (pc + 1) L (.int (x * y) :: rest) m) : AWl lay ad E μ d Q pc L (.int y :: .int x :: rest) m := fun p l e R s mt args below meth c H locs cs sl G cA A ls Qz C hP hD hS hl => lv_imul C.1.1 C.1.2.1 hd (k p l e R s mt args below meth c H locs cs sl G cA A ls Qz C hP hD hS hl)
theorem aw_iand {x y : Int32} (hd : decode μ.2.1 pc = .ok (.iand, 1)) (k : AWl lay ad E μ d Q (pc + 1) L (.int (x &&& y) :: rest) m) : AWl lay ad E μ d Q pc L (.int y :: .int x :: rest) m := fun p l e R s mt args below meth c H locs cs sl G cA A ls Qz C hP hD hS hl => lv_iand C.1.1 C.1.2.1 hd (k p l e R s mt args below meth c H locs cs sl G cA A ls Qz C hP hD hS hl)
theorem aw_ior {x y : Int32} (hd : decode μ.2.1 pc = .ok (.ior, 1)) (k : AWl lay ad E μ d Q (pc + 1) L (.int (x ||| y) :: rest) m) : AWl lay ad E μ d Q pc L (.int y :: .int x :: rest) m := fun p l e R s mt args below meth c H locs cs sl G cA A ls Qz C hP hD hS hl => lv_ior C.1.1 C.1.2.1 hd (k p l e R s mt args below meth c H locs cs sl G cA A ls Qz C hP hD hS hl)
theorem aw_ixor {x y : Int32} (hd : decode μ.2.1 pc = .ok (.ixor, 1)) (k : AWl lay ad E μ d Q (pc + 1) L (.int (x ^^^ y) :: rest) m) : AWl lay ad E μ d Q pc L (.int y :: .int x :: rest) m := fun p l e R s mt args below meth c H locs cs sl G cA A ls Qz C hP hD hS hl => lv_ixor C.1.1 C.1.2.1 hd (k p l e R s mt args below meth c H locs cs sl G cA A ls Qz C hP hD hS hl)
theorem aw_ishl {x y : Int32} (hd : decode μ.2.1 pc = .ok (.ishl, 1)) (k : AWl lay ad E μ d Q (pc + 1) L (.int (x <<< (y &&& 31)) :: rest) m) : AWl lay ad E μ d Q pc L (.int y :: .int x :: rest) m := fun p l e R s mt args below meth c H locs cs sl G cA A ls Qz C hP hD hS hl => lv_ishl C.1.1 C.1.2.1 hd (k p l e R s mt args below meth c H locs cs sl G cA A ls Qz C hP hD hS hl)
theorem aw_ishr {x y : Int32} (hd : decode μ.2.1 pc = .ok (.ishr, 1)) (k : AWl lay ad E μ d Q (pc + 1) L (.int (x >>> (y &&& 31)) :: rest) m) : AWl lay ad E μ d Q pc L (.int y :: .int x :: rest) m := fun p l e R s mt args below meth c H locs cs sl G cA A ls Qz C hP hD hS hl => lv_ishr C.1.1 C.1.2.1 hd (k p l e R s mt args below meth c H locs cs sl G cA A ls Qz C hP hD hS hl)
theorem aw_iushr {x y : Int32} (hd : decode μ.2.1 pc = .ok (.iushr, 1)) (k : AWl lay ad E μ d Q (pc + 1) L (.int ((x.toUInt32 >>> (y.toUInt32 &&& Int32.toUInt32 31)).toInt32) :: rest) m) : AWl lay ad E μ d Q pc L (.int y :: .int x :: rest) m := fun p l e R s mt args below meth c H locs cs sl G cA A ls Qz C hP hD hS hl => lv_iushr C.1.1 C.1.2.1 hd rfl (k p l e R s mt args below meth c H locs cs sl G cA A ls Qz C hP hD hS hl)
theorem aw_idiv {x y : Int32} (hd : decode μ.2.1 pc = .ok (.idiv, 1)) (hne : ¬ y = 0) (k : AWl lay ad E μ d Q (pc + 1) L (.int (x / y) :: rest) m) : AWl lay ad E μ d Q pc L (.int y :: .int x :: rest) m := fun p l e R s mt args below meth c H locs cs sl G cA A ls Qz C hP hD hS hl => lv_idiv C.1.1 C.1.2.1 hd hne (k p l e R s mt args below meth c H locs cs sl G cA A ls Qz C hP hD hS hl)
theorem aw_irem {x y : Int32} (hd : decode μ.2.1 pc = .ok (.irem, 1)) (hne : ¬ y = 0) (k : AWl lay ad E μ d Q (pc + 1) L (.int (x - x / y * y) :: rest) m) : AWl lay ad E μ d Q pc L (.int y :: .int x :: rest) m := fun p l e R s mt args below meth c H locs cs sl G cA A ls Qz C hP hD hS hl => lv_irem C.1.1 C.1.2.1 hd hne (k p l e R s mt args below meth c H locs cs sl G cA A ls Qz C hP hD hS hl)
theorem aw_ineg {x : Int32} (hd : decode μ.2.1 pc = .ok (.ineg, 1)) (k : AWl lay ad E μ d Q (pc + 1) L (.int (-x) :: rest) m) : AWl lay ad E μ d Q pc L (.int x :: rest) m := fun p l e R s mt args below meth c H locs cs sl G cA A ls Qz C hP hD hS hl => lv_ineg C.1.1 C.1.2.1 hd (k p l e R s mt args below meth c H locs cs sl G cA A ls Qz C hP hD hS hl)
theorem aw_ladd {x y : Int64} (hd : decode μ.2.1 pc = .ok (.ladd, 1)) (k : AWl lay ad E μ d Q (pc + 1) L (.long (x + y) :: rest) m) : AWl lay ad E μ d Q pc L (.long y :: .long x :: rest) m := fun p l e R s mt args below meth c H locs cs sl G cA A ls Qz C hP hD hS hl => lv_ladd C.1.1 C.1.2.1 hd (k p l e R s mt args below meth c H locs cs sl G cA A ls Qz C hP hD hS hl)
theorem aw_lsub {x y : Int64} (hd : decode μ.2.1 pc = .ok (.lsub, 1)) (k : AWl lay ad E μ d Q (pc + 1) L (.long (x - y) :: rest) m) : AWl lay ad E μ d Q pc L (.long y :: .long x :: rest) m := fun p l e R s mt args below meth c H locs cs sl G cA A ls Qz C hP hD hS hl => lv_lsub C.1.1 C.1.2.1 hd (k p l e R s mt args below meth c H locs cs sl G cA A ls Qz C hP hD hS hl)
theorem aw_lmul {x y : Int64} (hd : decode μ.2.1 pc = .ok (.lmul, 1)) (k : AWl lay ad E μ d Q (pc + 1) L (.long (x * y) :: rest) m) : AWl lay ad E μ d Q pc L (.long y :: .long x :: rest) m := fun p l e R s mt args below meth c H locs cs sl G cA A ls Qz C hP hD hS hl => lv_lmul C.1.1 C.1.2.1 hd (k p l e R s mt args below meth c H locs cs sl G cA A ls Qz C hP hD hS hl)
theorem aw_land {x y : Int64} (hd : decode μ.2.1 pc = .ok (.land, 1)) (k : AWl lay ad E μ d Q (pc + 1) L (.long (x &&& y) :: rest) m) : AWl lay ad E μ d Q pc L (.long y :: .long x :: rest) m := fun p l e R s mt args below meth c H locs cs sl G cA A ls Qz C hP hD hS hl => lv_land C.1.1 C.1.2.1 hd (k p l e R s mt args below meth c H locs cs sl G cA A ls Qz C hP hD hS hl)
theorem aw_lor {x y : Int64} (hd : decode μ.2.1 pc = .ok (.lor, 1)) (k : AWl lay ad E μ d Q (pc + 1) L (.long (x ||| y) :: rest) m) : AWl lay ad E μ d Q pc L (.long y :: .long x :: rest) m := fun p l e R s mt args below meth c H locs cs sl G cA A ls Qz C hP hD hS hl => lv_lor C.1.1 C.1.2.1 hd (k p l e R s mt args below meth c H locs cs sl G cA A ls Qz C hP hD hS hl)
theorem aw_lxor {x y : Int64} (hd : decode μ.2.1 pc = .ok (.lxor, 1)) (k : AWl lay ad E μ d Q (pc + 1) L (.long (x ^^^ y) :: rest) m) : AWl lay ad E μ d Q pc L (.long y :: .long x :: rest) m := fun p l e R s mt args below meth c H locs cs sl G cA A ls Qz C hP hD hS hl => lv_lxor C.1.1 C.1.2.1 hd (k p l e R s mt args below meth c H locs cs sl G cA A ls Qz C hP hD hS hl)
theorem aw_ldiv {x y : Int64} (hd : decode μ.2.1 pc = .ok (.ldiv, 1)) (hne : ¬ y = 0) (k : AWl lay ad E μ d Q (pc + 1) L (.long (x / y) :: rest) m) : AWl lay ad E μ d Q pc L (.long y :: .long x :: rest) m := fun p l e R s mt args below meth c H locs cs sl G cA A ls Qz C hP hD hS hl => lv_ldiv C.1.1 C.1.2.1 hd hne (k p l e R s mt args below meth c H locs cs sl G cA A ls Qz C hP hD hS hl)
theorem aw_lrem {x y : Int64} (hd : decode μ.2.1 pc = .ok (.lrem, 1)) (hne : ¬ y = 0) (k : AWl lay ad E μ d Q (pc + 1) L (.long (x - x / y * y) :: rest) m) : AWl lay ad E μ d Q pc L (.long y :: .long x :: rest) m := fun p l e R s mt args below meth c H locs cs sl G cA A ls Qz C hP hD hS hl => lv_lrem C.1.1 C.1.2.1 hd hne (k p l e R s mt args below meth c H locs cs sl G cA A ls Qz C hP hD hS hl)
theorem aw_lshl {x : Int64} {y : Int32} (hd : decode μ.2.1 pc = .ok (.lshl, 1)) (k : AWl lay ad E μ d Q (pc + 1) L (.long (x <<< (y.toInt64 &&& 63)) :: rest) m) : AWl lay ad E μ d Q pc L (.int y :: .long x :: rest) m := fun p l e R s mt args below meth c H locs cs sl G cA A ls Qz C hP hD hS hl => lv_lshl C.1.1 C.1.2.1 hd rfl (k p l e R s mt args below meth c H locs cs sl G cA A ls Qz C hP hD hS hl)
theorem aw_lshr {x : Int64} {y : Int32} (hd : decode μ.2.1 pc = .ok (.lshr, 1)) (k : AWl lay ad E μ d Q (pc + 1) L (.long (x >>> (y.toInt64 &&& 63)) :: rest) m) : AWl lay ad E μ d Q pc L (.int y :: .long x :: rest) m := fun p l e R s mt args below meth c H locs cs sl G cA A ls Qz C hP hD hS hl => lv_lshr C.1.1 C.1.2.1 hd rfl (k p l e R s mt args below meth c H locs cs sl G cA A ls Qz C hP hD hS hl)
theorem aw_lushr {x : Int64} {y : Int32} (hd : decode μ.2.1 pc = .ok (.lushr, 1)) (k : AWl lay ad E μ d Q (pc + 1) L (.long ((x.toUInt64 >>> (y.toInt64.toUInt64 &&& Int64.toUInt64 63)).toInt64) :: rest) m) : AWl lay ad E μ d Q pc L (.int y :: .long x :: rest) m := fun p l e R s mt args below meth c H locs cs sl G cA A ls Qz C hP hD hS hl => lv_lushr C.1.1 C.1.2.1 hd rfl (k p l e R s mt args below meth c H locs cs sl G cA A ls Qz C hP hD hS hl)
theorem aw_lcmp {x y : Int64} (hd : decode μ.2.1 pc = .ok (.lcmp, 1)) (k : AWl lay ad E μ d Q (pc + 1) L (.int (lg_cmp x y) :: rest) m) : AWl lay ad E μ d Q pc L (.long y :: .long x :: rest) m := fun p l e R s mt args below meth c H locs cs sl G cA A ls Qz C hP hD hS hl => W.lcmp C.1.1 C.1.2.1 hd (k p l e R s mt args below meth c H locs cs sl G cA A ls Qz C hP hD hS hl)
theorem aw_i2l {x : Int32} (hd : decode μ.2.1 pc = .ok (.i2l, 1)) (k : AWl lay ad E μ d Q (pc + 1) L (.long (x.toInt64) :: rest) m) : AWl lay ad E μ d Q pc L (.int x :: rest) m := fun p l e R s mt args below meth c H locs cs sl G cA A ls Qz C hP hD hS hl => lv_i2l C.1.1 C.1.2.1 hd rfl (k p l e R s mt args below meth c H locs cs sl G cA A ls Qz C hP hD hS hl)
theorem aw_l2i {x : Int64} (hd : decode μ.2.1 pc = .ok (.l2i, 1)) (k : AWl lay ad E μ d Q (pc + 1) L (.int (x.toInt32) :: rest) m) : AWl lay ad E μ d Q pc L (.long x :: rest) m := fun p l e R s mt args below meth c H locs cs sl G cA A ls Qz C hP hD hS hl => lv_l2i C.1.1 C.1.2.1 hd rfl (k p l e R s mt args below meth c H locs cs sl G cA A ls Qz C hP hD hS hl)
theorem aw_i2b {x : Int32} (hd : decode μ.2.1 pc = .ok (.i2b, 1)) (k : AWl lay ad E μ d Q (pc + 1) L (.int (x.toInt8.toInt32) :: rest) m) : AWl lay ad E μ d Q pc L (.int x :: rest) m := fun p l e R s mt args below meth c H locs cs sl G cA A ls Qz C hP hD hS hl => lv_i2b C.1.1 C.1.2.1 hd rfl (k p l e R s mt args below meth c H locs cs sl G cA A ls Qz C hP hD hS hl)
theorem aw_i2c {x : Int32} (hd : decode μ.2.1 pc = .ok (.i2c, 1)) (k : AWl lay ad E μ d Q (pc + 1) L (.int ((x.toUInt32 % 65536).toInt32) :: rest) m) : AWl lay ad E μ d Q pc L (.int x :: rest) m := fun p l e R s mt args below meth c H locs cs sl G cA A ls Qz C hP hD hS hl => lv_i2c C.1.1 C.1.2.1 hd rfl (k p l e R s mt args below meth c H locs cs sl G cA A ls Qz C hP hD hS hl)
theorem aw_i2s {x : Int32} (hd : decode μ.2.1 pc = .ok (.i2s, 1)) (k : AWl lay ad E μ d Q (pc + 1) L (.int (x.toInt16.toInt32) :: rest) m) : AWl lay ad E μ d Q pc L (.int x :: rest) m := fun p l e R s mt args below meth c H locs cs sl G cA A ls Qz C hP hD hS hl => lv_i2s C.1.1 C.1.2.1 hd rfl (k p l e R s mt args below meth c H locs cs sl G cA A ls Qz C hP hD hS hl)
theorem aw_dup {x : Value} (hd : decode μ.2.1 pc = .ok (.dup, 1)) (hc : x.category = 1) (k : AWl lay ad E μ d Q (pc + 1) L (x :: x :: rest) m) : AWl lay ad E μ d Q pc L (x :: rest) m := fun p l e R s mt args below meth c H locs cs sl G cA A ls Qz C hP hD hS hl => lv_dup C.1.1 C.1.2.1 hd hc (k p l e R s mt args below meth c H locs cs sl G cA A ls Qz C hP hD hS hl)
theorem aw_pop {x : Value} (hd : decode μ.2.1 pc = .ok (.pop, 1)) (hc : x.category = 1) (k : AWl lay ad E μ d Q (pc + 1) L (rest) m) : AWl lay ad E μ d Q pc L (x :: rest) m := fun p l e R s mt args below meth c H locs cs sl G cA A ls Qz C hP hD hS hl => lv_pop C.1.1 C.1.2.1 hd hc (k p l e R s mt args below meth c H locs cs sl G cA A ls Qz C hP hD hS hl)
theorem aw_dup_x1 {x y : Value} (hd : decode μ.2.1 pc = .ok (.dup_x1, 1)) (hc : x.category = 1) (hc2 : y.category = 1) (k : AWl lay ad E μ d Q (pc + 1) L (x :: y :: x :: rest) m) : AWl lay ad E μ d Q pc L (x :: y :: rest) m := fun p l e R s mt args below meth c H locs cs sl G cA A ls Qz C hP hD hS hl => lv_dup_x1 C.1.1 C.1.2.1 hd hc hc2 (k p l e R s mt args below meth c H locs cs sl G cA A ls Qz C hP hD hS hl)
theorem aw_dup2_11 {x y : Value} (hd : decode μ.2.1 pc = .ok (.dup2, 1)) (hc : x.category = 1) (hc2 : y.category = 1) (k : AWl lay ad E μ d Q (pc + 1) L (x :: y :: x :: y :: rest) m) : AWl lay ad E μ d Q pc L (x :: y :: rest) m := fun p l e R s mt args below meth c H locs cs sl G cA A ls Qz C hP hD hS hl => lv_dup2_11 C.1.1 C.1.2.1 hd hc hc2 (k p l e R s mt args below meth c H locs cs sl G cA A ls Qz C hP hD hS hl)
theorem aw_dup2_2 {x : Value} (hd : decode μ.2.1 pc = .ok (.dup2, 1)) (hc : x.category = 2) (k : AWl lay ad E μ d Q (pc + 1) L (x :: x :: rest) m) : AWl lay ad E μ d Q pc L (x :: rest) m := fun p l e R s mt args below meth c H locs cs sl G cA A ls Qz C hP hD hS hl => lv_dup2_2 C.1.1 C.1.2.1 hd hc (k p l e R s mt args below meth c H locs cs sl G cA A ls Qz C hP hD hS hl)
theorem aw_goto {off : Int} {tgt : Nat} (hd : decode μ.2.1 pc = .ok (.goto off, 3)) (ht : (pc : Int) + off = (tgt : Int)) (k : AWl lay ad E μ d Q tgt L rest m) : AWl lay ad E μ d Q pc L rest m := fun p l e R s mt args below meth c H locs cs sl G cA A ls Qz C hP hD hS hl => lv_goto C.1.1 C.1.2.1 hd ht (k p l e R s mt args below meth c H locs cs sl G cA A ls Qz C hP hD hS hl)
theorem aw_if_eq {x : Int32} {off : Int} {tgt : Nat} (hd : decode μ.2.1 pc = .ok (.ifCond .eq off, 3)) (ht : (pc : Int) + off = (tgt : Int)) (kt : x = 0 → AWl lay ad E μ d Q tgt L rest m) (kf : ¬ x = 0 → AWl lay ad E μ d Q (pc + 3) L rest m) : AWl lay ad E μ d Q pc L (.int x :: rest) m := fun p l e R s mt args below meth c H locs cs sl G cA A ls Qz C hP hD hS hl => lv_if_eq C.1.1 C.1.2.1 hd ht (fun h => kt h p l e R s mt args below meth c H locs cs sl G cA A ls Qz C hP hD hS hl) (fun h => kf h p l e R s mt args below meth c H locs cs sl G cA A ls Qz C hP hD hS hl)
theorem aw_if_ne {x : Int32} {off : Int} {tgt : Nat} (hd : decode μ.2.1 pc = .ok (.ifCond .ne off, 3)) (ht : (pc : Int) + off = (tgt : Int)) (kt : ¬ x = 0 → AWl lay ad E μ d Q tgt L rest m) (kf : x = 0 → AWl lay ad E μ d Q (pc + 3) L rest m) : AWl lay ad E μ d Q pc L (.int x :: rest) m := fun p l e R s mt args below meth c H locs cs sl G cA A ls Qz C hP hD hS hl => lv_if_ne C.1.1 C.1.2.1 hd ht (fun h => kt h p l e R s mt args below meth c H locs cs sl G cA A ls Qz C hP hD hS hl) (fun h => kf h p l e R s mt args below meth c H locs cs sl G cA A ls Qz C hP hD hS hl)
theorem aw_if_lt {x : Int32} {off : Int} {tgt : Nat} (hd : decode μ.2.1 pc = .ok (.ifCond .lt off, 3)) (ht : (pc : Int) + off = (tgt : Int)) (kt : x < 0 → AWl lay ad E μ d Q tgt L rest m) (kf : ¬ x < 0 → AWl lay ad E μ d Q (pc + 3) L rest m) : AWl lay ad E μ d Q pc L (.int x :: rest) m := fun p l e R s mt args below meth c H locs cs sl G cA A ls Qz C hP hD hS hl => lv_if_lt C.1.1 C.1.2.1 hd ht (fun h => kt h p l e R s mt args below meth c H locs cs sl G cA A ls Qz C hP hD hS hl) (fun h => kf h p l e R s mt args below meth c H locs cs sl G cA A ls Qz C hP hD hS hl)
theorem aw_if_ge {x : Int32} {off : Int} {tgt : Nat} (hd : decode μ.2.1 pc = .ok (.ifCond .ge off, 3)) (ht : (pc : Int) + off = (tgt : Int)) (kt : 0 ≤ x → AWl lay ad E μ d Q tgt L rest m) (kf : ¬ 0 ≤ x → AWl lay ad E μ d Q (pc + 3) L rest m) : AWl lay ad E μ d Q pc L (.int x :: rest) m := fun p l e R s mt args below meth c H locs cs sl G cA A ls Qz C hP hD hS hl => lv_if_ge C.1.1 C.1.2.1 hd ht (fun h => kt h p l e R s mt args below meth c H locs cs sl G cA A ls Qz C hP hD hS hl) (fun h => kf h p l e R s mt args below meth c H locs cs sl G cA A ls Qz C hP hD hS hl)
theorem aw_if_gt {x : Int32} {off : Int} {tgt : Nat} (hd : decode μ.2.1 pc = .ok (.ifCond .gt off, 3)) (ht : (pc : Int) + off = (tgt : Int)) (kt : 0 < x → AWl lay ad E μ d Q tgt L rest m) (kf : ¬ 0 < x → AWl lay ad E μ d Q (pc + 3) L rest m) : AWl lay ad E μ d Q pc L (.int x :: rest) m := fun p l e R s mt args below meth c H locs cs sl G cA A ls Qz C hP hD hS hl => lv_if_gt C.1.1 C.1.2.1 hd ht (fun h => kt h p l e R s mt args below meth c H locs cs sl G cA A ls Qz C hP hD hS hl) (fun h => kf h p l e R s mt args below meth c H locs cs sl G cA A ls Qz C hP hD hS hl)
theorem aw_if_le {x : Int32} {off : Int} {tgt : Nat} (hd : decode μ.2.1 pc = .ok (.ifCond .le off, 3)) (ht : (pc : Int) + off = (tgt : Int)) (kt : x ≤ 0 → AWl lay ad E μ d Q tgt L rest m) (kf : ¬ x ≤ 0 → AWl lay ad E μ d Q (pc + 3) L rest m) : AWl lay ad E μ d Q pc L (.int x :: rest) m := fun p l e R s mt args below meth c H locs cs sl G cA A ls Qz C hP hD hS hl => lv_if_le C.1.1 C.1.2.1 hd ht (fun h => kt h p l e R s mt args below meth c H locs cs sl G cA A ls Qz C hP hD hS hl) (fun h => kf h p l e R s mt args below meth c H locs cs sl G cA A ls Qz C hP hD hS hl)
theorem aw_icmp_eq {x y : Int32} {off : Int} {tgt : Nat} (hd : decode μ.2.1 pc = .ok (.if_icmp .eq off, 3)) (ht : (pc : Int) + off = (tgt : Int)) (kt : x = y → AWl lay ad E μ d Q tgt L rest m) (kf : ¬ x = y → AWl lay ad E μ d Q (pc + 3) L rest m) : AWl lay ad E μ d Q pc L (.int y :: .int x :: rest) m := fun p l e R s mt args below meth c H locs cs sl G cA A ls Qz C hP hD hS hl => lv_icmp_eq C.1.1 C.1.2.1 hd ht (fun h => kt h p l e R s mt args below meth c H locs cs sl G cA A ls Qz C hP hD hS hl) (fun h => kf h p l e R s mt args below meth c H locs cs sl G cA A ls Qz C hP hD hS hl)
theorem aw_icmp_ne {x y : Int32} {off : Int} {tgt : Nat} (hd : decode μ.2.1 pc = .ok (.if_icmp .ne off, 3)) (ht : (pc : Int) + off = (tgt : Int)) (kt : ¬ x = y → AWl lay ad E μ d Q tgt L rest m) (kf : x = y → AWl lay ad E μ d Q (pc + 3) L rest m) : AWl lay ad E μ d Q pc L (.int y :: .int x :: rest) m := fun p l e R s mt args below meth c H locs cs sl G cA A ls Qz C hP hD hS hl => lv_icmp_ne C.1.1 C.1.2.1 hd ht (fun h => kt h p l e R s mt args below meth c H locs cs sl G cA A ls Qz C hP hD hS hl) (fun h => kf h p l e R s mt args below meth c H locs cs sl G cA A ls Qz C hP hD hS hl)
theorem aw_icmp_lt {x y : Int32} {off : Int} {tgt : Nat} (hd : decode μ.2.1 pc = .ok (.if_icmp .lt off, 3)) (ht : (pc : Int) + off = (tgt : Int)) (kt : x < y → AWl lay ad E μ d Q tgt L rest m) (kf : ¬ x < y → AWl lay ad E μ d Q (pc + 3) L rest m) : AWl lay ad E μ d Q pc L (.int y :: .int x :: rest) m := fun p l e R s mt args below meth c H locs cs sl G cA A ls Qz C hP hD hS hl => lv_icmp_lt C.1.1 C.1.2.1 hd ht (fun h => kt h p l e R s mt args below meth c H locs cs sl G cA A ls Qz C hP hD hS hl) (fun h => kf h p l e R s mt args below meth c H locs cs sl G cA A ls Qz C hP hD hS hl)
theorem aw_icmp_ge {x y : Int32} {off : Int} {tgt : Nat} (hd : decode μ.2.1 pc = .ok (.if_icmp .ge off, 3)) (ht : (pc : Int) + off = (tgt : Int)) (kt : y ≤ x → AWl lay ad E μ d Q tgt L rest m) (kf : ¬ y ≤ x → AWl lay ad E μ d Q (pc + 3) L rest m) : AWl lay ad E μ d Q pc L (.int y :: .int x :: rest) m := fun p l e R s mt args below meth c H locs cs sl G cA A ls Qz C hP hD hS hl => lv_icmp_ge C.1.1 C.1.2.1 hd ht (fun h => kt h p l e R s mt args below meth c H locs cs sl G cA A ls Qz C hP hD hS hl) (fun h => kf h p l e R s mt args below meth c H locs cs sl G cA A ls Qz C hP hD hS hl)
theorem aw_icmp_gt {x y : Int32} {off : Int} {tgt : Nat} (hd : decode μ.2.1 pc = .ok (.if_icmp .gt off, 3)) (ht : (pc : Int) + off = (tgt : Int)) (kt : y < x → AWl lay ad E μ d Q tgt L rest m) (kf : ¬ y < x → AWl lay ad E μ d Q (pc + 3) L rest m) : AWl lay ad E μ d Q pc L (.int y :: .int x :: rest) m := fun p l e R s mt args below meth c H locs cs sl G cA A ls Qz C hP hD hS hl => lv_icmp_gt C.1.1 C.1.2.1 hd ht (fun h => kt h p l e R s mt args below meth c H locs cs sl G cA A ls Qz C hP hD hS hl) (fun h => kf h p l e R s mt args below meth c H locs cs sl G cA A ls Qz C hP hD hS hl)
theorem aw_icmp_le {x y : Int32} {off : Int} {tgt : Nat} (hd : decode μ.2.1 pc = .ok (.if_icmp .le off, 3)) (ht : (pc : Int) + off = (tgt : Int)) (kt : x ≤ y → AWl lay ad E μ d Q tgt L rest m) (kf : ¬ x ≤ y → AWl lay ad E μ d Q (pc + 3) L rest m) : AWl lay ad E μ d Q pc L (.int y :: .int x :: rest) m := fun p l e R s mt args below meth c H locs cs sl G cA A ls Qz C hP hD hS hl => lv_icmp_le C.1.1 C.1.2.1 hd ht (fun h => kt h p l e R s mt args below meth c H locs cs sl G cA A ls Qz C hP hD hS hl) (fun h => kf h p l e R s mt args below meth c H locs cs sl G cA A ls Qz C hP hD hS hl)
theorem aw_tswOut {dflt lo hi : Int} {offs : Array Int} {len : Nat} {x : Int32} {tgt : Nat} (hd : decode μ.2.1 pc = .ok (.tableswitch dflt lo hi offs, len)) (h : x.toInt < lo ∨ hi < x.toInt) (ht : (pc : Int) + dflt = (tgt : Int)) (k : AWl lay ad E μ d Q tgt L rest m) : AWl lay ad E μ d Q pc L (.int x :: rest) m := fun p l e R s mt args below meth c H locs cs sl G cA A ls Qz C hP hD hS hl => lv_tableOut C.1.1 C.1.2.1 hd h ht (k p l e R s mt args below meth c H locs cs sl G cA A ls Qz C hP hD hS hl)
theorem aw_tswIn {dflt lo hi : Int} {offs : Array Int} {len : Nat} {x v : Int32} {off : Int} {tgt : Nat} (hd : decode μ.2.1 pc = .ok (.tableswitch dflt lo hi offs, len)) (hx : x = v) (h1 : ¬ v.toInt < lo) (h2 : ¬ hi < v.toInt) (ho : offs[(v.toInt - lo).toNat]? = some off) (ht : (pc : Int) + off = (tgt : Int)) (k : AWl lay ad E μ d Q tgt L rest m) : AWl lay ad E μ d Q pc L (.int x :: rest) m := by subst hx; exact fun p l e R s mt args below meth c H locs cs sl G cA A ls Qz C hP hD hS hl => lv_tableIn C.1.1 C.1.2.1 hd h1 h2 ho ht (k p l e R s mt args below meth c H locs cs sl G cA A ls Qz C hP hD hS hl)
theorem aw_lsw {dflt : Int} {ps : Array (Int × Int)} {len : Nat} {x : Int32} {off : Int} {tgt : Nat} (hd : decode μ.2.1 pc = .ok (.lookupswitch dflt ps, len)) (hp : (ps.toList.zip (ps.toList.drop 1)).all (fun (a, next) => a.1 < next.1) = true) (ho : Op.lookupswitch.offset ps.toList dflt x.toInt = off) (ht : (pc : Int) + off = (tgt : Int)) (k : AWl lay ad E μ d Q tgt L rest m) : AWl lay ad E μ d Q pc L (.int x :: rest) m := fun p l e R s mt args below meth c H locs cs sl G cA A ls Qz C hP hD hS hl => lv_lookup C.1.1 C.1.2.1 hd hp ho ht (k p l e R s mt args below meth c H locs cs sl G cA A ls Qz C hP hD hS hl)
theorem aw_ldc {idx : Nat} {v : Int32} (hd : decode μ.2.1 pc = .ok (.ldc idx, 2)) (hw : Cond.constant μ.2.2.2.1 idx v ∈ TW) (k : AWl lay ad E μ d Q (pc + 2) L (.int v :: rest) m) : AWl lay ad E μ d Q pc L rest m := fun p l e R s mt args below meth c H locs cs sl G cA A ls Qz C hP hD hS hl => lv_ldc C.1.1 C.1.2.1 C.1.2.2.2.1 (C.1.2.2.2.2 _ hw) hd (k p l e R s mt args below meth c H locs cs sl G cA A ls Qz C hP hD hS hl)
theorem aw_ldcw {idx : Nat} {v : Int32} (hd : decode μ.2.1 pc = .ok (.ldc_w idx, 3)) (hw : Cond.constant μ.2.2.2.1 idx v ∈ TW) (k : AWl lay ad E μ d Q (pc + 3) L (.int v :: rest) m) : AWl lay ad E μ d Q pc L rest m := fun p l e R s mt args below meth c H locs cs sl G cA A ls Qz C hP hD hS hl => lv_ldcw C.1.1 C.1.2.1 C.1.2.2.2.1 (C.1.2.2.2.2 _ hw) hd (k p l e R s mt args below meth c H locs cs sl G cA A ls Qz C hP hD hS hl)
theorem aw_ldc2 {idx : Nat} {v : Int64} (hd : decode μ.2.1 pc = .ok (.ldc2_w idx, 3)) (hw : Cond.constantLong μ.2.2.2.1 idx v ∈ TW) (k : AWl lay ad E μ d Q (pc + 3) L (.long v :: rest) m) : AWl lay ad E μ d Q pc L rest m := fun p l e R s mt args below meth c H locs cs sl G cA A ls Qz C hP hD hS hl => lv_ldc2 C.1.1 C.1.2.1 C.1.2.2.2.1 (C.1.2.2.2.2 _ hw) hd (k p l e R s mt args below meth c H locs cs sl G cA A ls Qz C hP hD hS hl)
/-- what is known of a class whose objects are in the world, and of its fields -/
def FldOK (own C : String) (T : u_T) (N ci k idx : Nat) : Prop := (∀ w ∈ u_ws C T N, w ∈ TW) ∧ vwCl[ci]? = some (C, T, N) ∧ k < N ∧ (T k).1 = C ∧ Cond.fieldLink own idx C (T k).2.1 (T k).2.2.1 ∈ TW
def ClsOK (C : String) (T : u_T) (ty0 : Nat → FieldType) (N : Nat) : Prop := (∀ k, k < N → parseFieldDescriptor (T k).2.2.1 = some (ty0 k)) ∧ (∀ a, a < N → ∀ b, b < N → a ≠ b → (T a).2.1 ≠ (T b).2.1)
theorem aw_getfield {v : Value} {C' : String} {T : u_T} {N ci k idx a c : Nat} {cs' : List Nat} (hd : decode μ.2.1 pc = .ok (.getfield idx, 3)) (hf : FldOK μ.2.2.2.1 C' T N ci k idx) (he : lay[a]? = some (.inl (ci, cs'))) (hc : cs'[k]? = some c) (hv : fldV ad m a k c = v) (k' : AWl lay ad E μ d Q (pc + 3) L (v :: rest) m) : AWl lay ad E μ d Q pc L (.ref (ad a) :: rest) m := fun p l e R s mt args below meth c H locs cs sl G cA A ls Qz C hP hD hS hl => va_get C.1.1 C.1.2.1 C.1.2.2.2.2 hf.1 C.1.2.2.2.1 C.2.1 hP a (ob_at he) hf.2.1 k hf.2.2.1 (C.1.2.2.2.2 _ hf.2.2.2.2) (fun x h => by rw [hf.2.2.2.1] at h; exact h) (hv ▸ fldVs_at hc) hd (k' p l e R s mt args below meth c H locs cs sl G cA A ls Qz C hP hD hS hl)
theorem aw_putI {C' : String} {T : u_T} {ty0 : Nat → FieldType} {N ci k idx a : Nat} {cs' : List Nat} {x : Int32} (hd : decode μ.2.1 pc = .ok (.putfield idx, 3)) (hf : FldOK μ.2.2.2.1 C' T N ci k idx) (hcl : ClsOK C' T ty0 N) (hnf : (T k).2.2.2 = false) (he : lay[a]? = some (.inl (ci, cs'))) (hc : cs'[k]? = some 0) (hn : narrow (ty0 k) (.int x) = .int x) (hfit : fits (ty0 k) (.int x) = true) (k' : AWl lay ad E μ d Q (pc + 3) L rest (uI m a k x)) : AWl lay ad E μ d Q pc L (.int x :: .ref (ad a) :: rest) m := fun p l e R s mt args below meth c H locs cs sl G cA A ls Qz C hP hD hS hl => va_put (ty := ty0 k) C.1.1 C.1.2.1 C.1.2.2.2.2 hf.1 ty0 hcl.1 hcl.2 C.1.2.2.2.1 C.2.1 hP hD hS a (ob_at he) hf.2.1 k hf.2.2.1 (C.1.2.2.2.2 _ hf.2.2.2.2) (fun x h => by rw [hf.2.2.2.1] at h; exact h) hnf (hcl.1 k hf.2.2.1) hn hfit (by rw [fldVs_len]; exact (List.getElem?_eq_some_iff.mp hc).1) hd (fun H1 locs1 hP1 hD1 hS1 => k' p l e R s mt args below meth c H1 locs1 cs sl G cA A ls Qz C ((set_int he hc) ▸ hP1) (cells_D hD) hS1 hl)
theorem aw_putL {C' : String} {T : u_T} {ty0 : Nat → FieldType} {N ci k idx a : Nat} {cs' : List Nat} {x : Int64} (hd : decode μ.2.1 pc = .ok (.putfield idx, 3)) (hf : FldOK μ.2.2.2.1 C' T N ci k idx) (hcl : ClsOK C' T ty0 N) (hnf : (T k).2.2.2 = false) (he : lay[a]? = some (.inl (ci, cs'))) (hc : cs'[k]? = some 1) (hn : narrow (ty0 k) (.long x) = .long x) (hfit : fits (ty0 k) (.long x) = true) (k' : AWl lay ad E μ d Q (pc + 3) L rest (uL m a k x)) : AWl lay ad E μ d Q pc L (.long x :: .ref (ad a) :: rest) m := fun p l e R s mt args below meth c H locs cs sl G cA A ls Qz C hP hD hS hl => va_put (ty := ty0 k) C.1.1 C.1.2.1 C.1.2.2.2.2 hf.1 ty0 hcl.1 hcl.2 C.1.2.2.2.1 C.2.1 hP hD hS a (ob_at he) hf.2.1 k hf.2.2.1 (C.1.2.2.2.2 _ hf.2.2.2.2) (fun x h => by rw [hf.2.2.2.1] at h; exact h) hnf (hcl.1 k hf.2.2.1) hn hfit (by rw [fldVs_len]; exact (List.getElem?_eq_some_iff.mp hc).1) hd (fun H1 locs1 hP1 hD1 hS1 => k' p l e R s mt args below meth c H1 locs1 cs sl G cA A ls Qz C ((set_long he hc) ▸ hP1) (cells_D hD) hS1 hl)
theorem aw_putR {C' : String} {T : u_T} {ty0 : Nat → FieldType} {N ci k idx a : Nat} {cs' : List Nat} {x : Nat} (hd : decode μ.2.1 pc = .ok (.putfield idx, 3)) (hf : FldOK μ.2.2.2.1 C' T N ci k idx) (hcl : ClsOK C' T ty0 N) (hnf : (T k).2.2.2 = false) (he : lay[a]? = some (.inl (ci, cs'))) (hc : cs'[k]? = some 2) (hn : narrow (ty0 k) (.ref (ad x)) = .ref (ad x)) (hfit : fits (ty0 k) (.ref (ad x)) = true) (k' : AWl lay ad E μ d Q (pc + 3) L rest (uR m a k (some x))) : AWl lay ad E μ d Q pc L (.ref (ad x) :: .ref (ad a) :: rest) m := fun p l e R s mt args below meth c H locs cs sl G cA A ls Qz C hP hD hS hl => va_put (ty := ty0 k) C.1.1 C.1.2.1 C.1.2.2.2.2 hf.1 ty0 hcl.1 hcl.2 C.1.2.2.2.1 C.2.1 hP hD hS a (ob_at he) hf.2.1 k hf.2.2.1 (C.1.2.2.2.2 _ hf.2.2.2.2) (fun x h => by rw [hf.2.2.2.1] at h; exact h) hnf (hcl.1 k hf.2.2.1) hn hfit (by rw [fldVs_len]; exact (List.getElem?_eq_some_iff.mp hc).1) hd (fun H1 locs1 hP1 hD1 hS1 => k' p l e R s mt args below meth c H1 locs1 cs sl G cA A ls Qz C ((set_ref he hc) ▸ hP1) (cells_D hD) hS1 hl)
theorem aw_iaload {a n : Nat} {i : Int32} (hd : decode μ.2.1 pc = .ok (.iaload, 1)) (he : lay[a]? = some (.inr (0, n))) (hi : vp_in i n) (k : AWl lay ad E μ d Q (pc + 1) L (.int (m.1 a i.toNatClampNeg) :: rest) m) : AWl lay ad E μ d Q pc L (.int i :: .ref (ad a) :: rest) m := fun p l e R s mt args below meth c H locs cs sl G cA A ls Qz C hP hD hS hl => va_iald C.1.1 C.1.2.1 C.2.1 hP a 0 (arI_at he (by decide)) rfl hi hd (k p l e R s mt args below meth c H locs cs sl G cA A ls Qz C hP hD hS hl)
theorem aw_baload {a n : Nat} {i : Int32} (hd : decode μ.2.1 pc = .ok (.baload, 1)) (he : lay[a]? = some (.inr (1, n))) (hi : vp_in i n) (k : AWl lay ad E μ d Q (pc + 1) L (.int (m.1 a i.toNatClampNeg) :: rest) m) : AWl lay ad E μ d Q pc L (.int i :: .ref (ad a) :: rest) m := fun p l e R s mt args below meth c H locs cs sl G cA A ls Qz C hP hD hS hl => va_bald C.1.1 C.1.2.1 C.2.1 hP a 1 (arI_at he (by decide)) rfl hi hd (k p l e R s mt args below meth c H locs cs sl G cA A ls Qz C hP hD hS hl)
theorem aw_caload {a n : Nat} {i : Int32} (hd : decode μ.2.1 pc = .ok (.caload, 1)) (he : lay[a]? = some (.inr (2, n))) (hi : vp_in i n) (k : AWl lay ad E μ d Q (pc + 1) L (.int (m.1 a i.toNatClampNeg) :: rest) m) : AWl lay ad E μ d Q pc L (.int i :: .ref (ad a) :: rest) m := fun p l e R s mt args below meth c H locs cs sl G cA A ls Qz C hP hD hS hl => va_cald C.1.1 C.1.2.1 C.2.1 hP a 2 (arI_at he (by decide)) rfl hi hd (k p l e R s mt args below meth c H locs cs sl G cA A ls Qz C hP hD hS hl)
theorem aw_zaload {a n : Nat} {i : Int32} (hd : decode μ.2.1 pc = .ok (.baload, 1)) (he : lay[a]? = some (.inr (3, n))) (hi : vp_in i n) (k : AWl lay ad E μ d Q (pc + 1) L (.int (m.1 a i.toNatClampNeg) :: rest) m) : AWl lay ad E μ d Q pc L (.int i :: .ref (ad a) :: rest) m := fun p l e R s mt args below meth c H locs cs sl G cA A ls Qz C hP hD hS hl => va_zald C.1.1 C.1.2.1 C.2.1 hP a 3 (arI_at he (by decide)) rfl hi hd (k p l e R s mt args below meth c H locs cs sl G cA A ls Qz C hP hD hS hl)
theorem aw_laload {a n : Nat} {i : Int32} (hd : decode μ.2.1 pc = .ok (.laload, 1)) (he : lay[a]? = some (.inr (4, n))) (hi : vp_in i n) (k : AWl lay ad E μ d Q (pc + 1) L (.long (m.2.1 a i.toNatClampNeg) :: rest) m) : AWl lay ad E μ d Q pc L (.int i :: .ref (ad a) :: rest) m := fun p l e R s mt args below meth c H locs cs sl G cA A ls Qz C hP hD hS hl => va_lald C.1.1 C.1.2.1 C.2.1 hP a 4 (arL_at he) rfl hi hd (k p l e R s mt args below meth c H locs cs sl G cA A ls Qz C hP hD hS hl)
theorem aw_aaload5 {a n b : Nat} {i : Int32} (hd : decode μ.2.1 pc = .ok (.aaload, 1)) (he : lay[a]? = some (.inr (5, n))) (hi : vp_in i n) (hb : m.2.2 a i.toNatClampNeg = some b) (k : AWl lay ad E μ d Q (pc + 1) L (.ref (ad b) :: rest) m) : AWl lay ad E μ d Q pc L (.int i :: .ref (ad a) :: rest) m := fun p l e R s mt args below meth c H locs cs sl G cA A ls Qz C hP hD hS hl => va_aldq C.1.1 C.1.2.1 C.2.1 hP a 5 (arR_at he (by decide)) rfl hi hd (by rw [hb]; exact k p l e R s mt args below meth c H locs cs sl G cA A ls Qz C hP hD hS hl)
theorem aw_aaload6 {a n b : Nat} {i : Int32} (hd : decode μ.2.1 pc = .ok (.aaload, 1)) (he : lay[a]? = some (.inr (6, n))) (hi : vp_in i n) (hb : m.2.2 a i.toNatClampNeg = some b) (k : AWl lay ad E μ d Q (pc + 1) L (.ref (ad b) :: rest) m) : AWl lay ad E μ d Q pc L (.int i :: .ref (ad a) :: rest) m := fun p l e R s mt args below meth c H locs cs sl G cA A ls Qz C hP hD hS hl => va_aldq C.1.1 C.1.2.1 C.2.1 hP a 6 (arR_at he (by decide)) rfl hi hd (by rw [hb]; exact k p l e R s mt args below meth c H locs cs sl G cA A ls Qz C hP hD hS hl)
theorem aw_iastore {a n : Nat} {i x : Int32} (hd : decode μ.2.1 pc = .ok (.iastore, 1)) (he : lay[a]? = some (.inr (0, n))) (hi : vp_in i n) (k : AWl lay ad E μ d Q (pc + 1) L rest (uI m a i.toNatClampNeg (x))) : AWl lay ad E μ d Q pc L (.int x :: .int i :: .ref (ad a) :: rest) m := fun p l e R s mt args below meth c H locs cs sl G cA A ls Qz C hP hD hS hl => va_iast C.1.1 C.1.2.1 C.2.1 hP hD hS a 0 (arI_at he (by decide)) rfl hi hd (fun H1 locs1 hP1 hD1 hS1 => k p l e R s mt args below meth c H1 locs1 cs sl G cA A ls Qz C (set_arI he (by decide) ▸ hP1) (cells_D hD) hS1 hl)
theorem aw_bastore {a n : Nat} {i x : Int32} (hd : decode μ.2.1 pc = .ok (.bastore, 1)) (he : lay[a]? = some (.inr (1, n))) (hi : vp_in i n) (k : AWl lay ad E μ d Q (pc + 1) L rest (uI m a i.toNatClampNeg (vp_nar .byte x))) : AWl lay ad E μ d Q pc L (.int x :: .int i :: .ref (ad a) :: rest) m := fun p l e R s mt args below meth c H locs cs sl G cA A ls Qz C hP hD hS hl => va_bast C.1.1 C.1.2.1 C.2.1 hP hD hS a 1 (arI_at he (by decide)) rfl hi hd (fun H1 locs1 hP1 hD1 hS1 => k p l e R s mt args below meth c H1 locs1 cs sl G cA A ls Qz C (set_arI he (by decide) ▸ hP1) (cells_D hD) hS1 hl)
theorem aw_castore {a n : Nat} {i x : Int32} (hd : decode μ.2.1 pc = .ok (.castore, 1)) (he : lay[a]? = some (.inr (2, n))) (hi : vp_in i n) (k : AWl lay ad E μ d Q (pc + 1) L rest (uI m a i.toNatClampNeg (vp_nar .char x))) : AWl lay ad E μ d Q pc L (.int x :: .int i :: .ref (ad a) :: rest) m := fun p l e R s mt args below meth c H locs cs sl G cA A ls Qz C hP hD hS hl => va_cast C.1.1 C.1.2.1 C.2.1 hP hD hS a 2 (arI_at he (by decide)) rfl hi hd (fun H1 locs1 hP1 hD1 hS1 => k p l e R s mt args below meth c H1 locs1 cs sl G cA A ls Qz C (set_arI he (by decide) ▸ hP1) (cells_D hD) hS1 hl)
theorem aw_zastore {a n : Nat} {i x : Int32} (hd : decode μ.2.1 pc = .ok (.bastore, 1)) (he : lay[a]? = some (.inr (3, n))) (hi : vp_in i n) (k : AWl lay ad E μ d Q (pc + 1) L rest (uI m a i.toNatClampNeg (vp_nar .boolean x))) : AWl lay ad E μ d Q pc L (.int x :: .int i :: .ref (ad a) :: rest) m := fun p l e R s mt args below meth c H locs cs sl G cA A ls Qz C hP hD hS hl => va_zast C.1.1 C.1.2.1 C.2.1 hP hD hS a 3 (arI_at he (by decide)) rfl hi hd (fun H1 locs1 hP1 hD1 hS1 => k p l e R s mt args below meth c H1 locs1 cs sl G cA A ls Qz C (set_arI he (by decide) ▸ hP1) (cells_D hD) hS1 hl)
theorem aw_lastore {a n : Nat} {i : Int32} {x : Int64} (hd : decode μ.2.1 pc = .ok (.lastore, 1)) (he : lay[a]? = some (.inr (4, n))) (hi : vp_in i n) (k : AWl lay ad E μ d Q (pc + 1) L rest (uL m a i.toNatClampNeg x)) : AWl lay ad E μ d Q pc L (.long x :: .int i :: .ref (ad a) :: rest) m := fun p l e R s mt args below meth c H locs cs sl G cA A ls Qz C hP hD hS hl => va_last C.1.1 C.1.2.1 C.2.1 hP hD hS a 4 (arL_at he) rfl hi hd (fun H1 locs1 hP1 hD1 hS1 => k p l e R s mt args below meth c H1 locs1 cs sl G cA A ls Qz C (set_arL he ▸ hP1) (cells_D hD) hS1 hl)
theorem aw_alen0 {a n : Nat} {v : Int32} (hd : decode μ.2.1 pc = .ok (.arraylength, 1)) (he : lay[a]? = some (.inr (0, n))) (hv : Int32.ofNat n = v) (k : AWl lay ad E μ d Q (pc + 1) L (.int v :: rest) m) : AWl lay ad E μ d Q pc L (.ref (ad a) :: rest) m := fun p l e R s mt args below meth c H locs cs sl G cA A ls Qz C hP hD hS hl => va_alen C.1.1 C.1.2.1 C.2.1 hP a 0 (arI_at he (by decide)) rfl hv hd (k p l e R s mt args below meth c H locs cs sl G cA A ls Qz C hP hD hS hl)
theorem aw_alen1 {a n : Nat} {v : Int32} (hd : decode μ.2.1 pc = .ok (.arraylength, 1)) (he : lay[a]? = some (.inr (1, n))) (hv : Int32.ofNat n = v) (k : AWl lay ad E μ d Q (pc + 1) L (.int v :: rest) m) : AWl lay ad E μ d Q pc L (.ref (ad a) :: rest) m := fun p l e R s mt args below meth c H locs cs sl G cA A ls Qz C hP hD hS hl => va_alen C.1.1 C.1.2.1 C.2.1 hP a 1 (arI_at he (by decide)) rfl hv hd (k p l e R s mt args below meth c H locs cs sl G cA A ls Qz C hP hD hS hl)
theorem aw_alen2 {a n : Nat} {v : Int32} (hd : decode μ.2.1 pc = .ok (.arraylength, 1)) (he : lay[a]? = some (.inr (2, n))) (hv : Int32.ofNat n = v) (k : AWl lay ad E μ d Q (pc + 1) L (.int v :: rest) m) : AWl lay ad E μ d Q pc L (.ref (ad a) :: rest) m := fun p l e R s mt args below meth c H locs cs sl G cA A ls Qz C hP hD hS hl => va_alen C.1.1 C.1.2.1 C.2.1 hP a 2 (arI_at he (by decide)) rfl hv hd (k p l e R s mt args below meth c H locs cs sl G cA A ls Qz C hP hD hS hl)
theorem aw_alen3 {a n : Nat} {v : Int32} (hd : decode μ.2.1 pc = .ok (.arraylength, 1)) (he : lay[a]? = some (.inr (3, n))) (hv : Int32.ofNat n = v) (k : AWl lay ad E μ d Q (pc + 1) L (.int v :: rest) m) : AWl lay ad E μ d Q pc L (.ref (ad a) :: rest) m := fun p l e R s mt args below meth c H locs cs sl G cA A ls Qz C hP hD hS hl => va_alen C.1.1 C.1.2.1 C.2.1 hP a 3 (arI_at he (by decide)) rfl hv hd (k p l e R s mt args below meth c H locs cs sl G cA A ls Qz C hP hD hS hl)
theorem aw_alen4 {a n : Nat} {v : Int32} (hd : decode μ.2.1 pc = .ok (.arraylength, 1)) (he : lay[a]? = some (.inr (4, n))) (hv : Int32.ofNat n = v) (k : AWl lay ad E μ d Q (pc + 1) L (.int v :: rest) m) : AWl lay ad E μ d Q pc L (.ref (ad a) :: rest) m := fun p l e R s mt args below meth c H locs cs sl G cA A ls Qz C hP hD hS hl => va_alen C.1.1 C.1.2.1 C.2.1 hP a 4 (arL_at he) rfl hv hd (k p l e R s mt args below meth c H locs cs sl G cA A ls Qz C hP hD hS hl)
theorem aw_alen5 {a n : Nat} {v : Int32} (hd : decode μ.2.1 pc = .ok (.arraylength, 1)) (he : lay[a]? = some (.inr (5, n))) (hv : Int32.ofNat n = v) (k : AWl lay ad E μ d Q (pc + 1) L (.int v :: rest) m) : AWl lay ad E μ d Q pc L (.ref (ad a) :: rest) m := fun p l e R s mt args below meth c H locs cs sl G cA A ls Qz C hP hD hS hl => va_alen C.1.1 C.1.2.1 C.2.1 hP a 5 (arR_at he (by decide)) rfl hv hd (k p l e R s mt args below meth c H locs cs sl G cA A ls Qz C hP hD hS hl)
theorem aw_alen6 {a n : Nat} {v : Int32} (hd : decode μ.2.1 pc = .ok (.arraylength, 1)) (he : lay[a]? = some (.inr (6, n))) (hv : Int32.ofNat n = v) (k : AWl lay ad E μ d Q (pc + 1) L (.int v :: rest) m) : AWl lay ad E μ d Q pc L (.ref (ad a) :: rest) m := fun p l e R s mt args below meth c H locs cs sl G cA A ls Qz C hP hD hS hl => va_alen C.1.1 C.1.2.1 C.2.1 hP a 6 (arR_at he (by decide)) rfl hv hd (k p l e R s mt args below meth c H locs cs sl G cA A ls Qz C hP hD hS hl)
end AWR
/-- what the tables say of a call: of the object's own method, and of a static one -/
def CallV (own : String) (idx : Nat) (C : String) (μ' : MI) (n : Nat) : Prop := Cond.methodLink own idx μ'.1 ∈ TW ∧ Cond.instanceMethod μ'.1 ∈ TW ∧ Cond.selects C μ'.1 μ'.1 ∈ TW ∧ Cond.initialized μ'.1.cls ∈ TW ∧ Cond.code μ'.1 μ'.2.1 μ'.2.2.1 μ'.2.2.2.2 ∈ TW ∧ (μ'.1.cls ≠ "java/lang/invoke/MethodHandle" ∧ μ'.1.cls ≠ "java/lang/invoke/VarHandle" ∧ (parseMethodDescriptor μ'.1.desc).map (fun d => d.parameters.length) = some n) ∧ μ'.2.2.1 ≤ 22
def CallS (own : String) (idx : Nat) (μ' : MI) (n : Nat) : Prop := Cond.methodLink own idx μ'.1 ∈ TW ∧ Cond.static μ'.1 ∈ TW ∧ Cond.initialized μ'.1.cls ∈ TW ∧ Cond.code μ'.1 μ'.2.1 μ'.2.2.1 μ'.2.2.2.2 ∈ TW ∧ (μ'.1.cls ≠ "java/lang/invoke/MethodHandle" ∧ μ'.1.cls ≠ "java/lang/invoke/VarHandle" ∧ (parseMethodDescriptor μ'.1.desc).map (fun d => d.parameters.length) = some n) ∧ μ'.2.2.1 ≤ 22
def CallN (own : String) (idx : Nat) (host : String) (μ' : MI) (n : Nat) : Prop := (own, idx, μ'.1, host) ∈ NW ∧ Cond.static μ'.1 ∈ TW ∧ Cond.initialized μ'.1.cls ∈ TW ∧ Cond.code μ'.1 μ'.2.1 μ'.2.2.1 μ'.2.2.2.2 ∈ TW ∧ (μ'.1.cls ≠ "java/lang/invoke/MethodHandle" ∧ μ'.1.cls ≠ "java/lang/invoke/VarHandle" ∧ (parseMethodDescriptor μ'.1.desc).map (fun d => d.parameters.length) = some n) ∧ μ'.2.2.1 ≤ 22
theorem PCt.blind {lay : List Ent} {ad : Nat → Nat} {G : va_G} {cA : Nat → ClassId} {m : Wm} {sz : Nat} {As : List Value} : FrameBlind (va_Pc As (PCt lay ad G cA m sz)) := fun a U g mk q => ⟨q.1, q.2.1, q.2.2.1, va_K.moved (u := U) (U := U.calling g mk a) (Vm.Alike.refl U.vm) q.2.2.2.1, q.2.2.2.2.1, NWs.same (u := U) (U := U.calling g mk a) rfl q.2.2.2.2.2⟩
/-- behind a call -/
theorem aw_run {lay : List Ent} {ad : Nat → Nat} {p : Program} {l : Launch} {e : Env} {R : Room} {s : State} {mt : MethodId} {args : Array Value} {below : List Frame} {meth : Method} {c : Code} {H : Heap} {locs : List Loc} {cs sl : Nat} {G : va_G} {cA : Nat → ClassId} {A : Nat → Prop} {m : Wm} {Qz : State → Prop} {pc : Nat} {ls : Array Slot} {st0 rest : List Value} {a : Array Value} {Q' : Option Value → Wm → Prop}
    (hr : va_Run p l e R s mt args below meth c H locs cs sl 0 0 (F0 mt pc ls st0) rest (QC lay ad G cA Q' (va_A (cellsOf lay ad cA m) H.size) a) (va_A (cellsOf lay ad cA m) H.size)) (hD : va_D A (cellsOf lay ad cA m)) (hS : va_S A s.heap H locs) (hA : ∀ q, s.heap.size ≤ q → A q)
    (kk : ∀ (v : Option Value) (m' : Wm) (H1 : Heap) (locs1 : List Loc), Q' v m' → va_P G vwCl (cellsOf lay ad cA m') H1 → va_D A (cellsOf lay ad cA m') → va_S A s.heap H1 locs1 → W p l e R s mt args below meth c H1 locs1 cs sl Qz (F0 mt (pc + 3) ls (v.toList ++ rest))) : W p l e R s mt args below meth c H locs cs sl Qz (F0 mt pc ls st0) := by
  intro T hT X
  obtain ⟨v, st₀, t, T', L, h0, X', hL, e1, e2, ⟨⟨v', m', hv, hq, hp⟩, hz, hk⟩, st⟩ := hr T hT X
  cases hv
  rw [h0] at hz hk
  have hAA : ∀ q, va_A (cellsOf lay ad cA m) H.size q → A q := by
    intro q hq
    rcases hq with ⟨k, x, hq⟩ | hq
    · exact hD.2 k (q, x) hq
    · exact hA q (Nat.le_trans hS.1 hq)
  obtain ⟨t2, a1, b1⟩ := kk v m' T'.heap (locs ++ L) hq (by rw [e1]; exact hp) (cells_D hD)
    ⟨Nat.le_trans hS.1 (by rw [e1]; exact hz), fun q h1 h2 => by rw [e1, hk q (Nat.lt_of_lt_of_le h1 hS.1) (fun z => h2 (hAA q z))]; exact hS.2.1 q h1 h2, fun q hq => by
      rcases List.mem_append.mp hq with h | h
      · exact hS.2.2 q h
      · exact hAA _ (hL q h)⟩ T' rfl X'
  exact ⟨t2, st t2 a1, b1⟩
section AWC
variable {lay : List Ent} {ad : Nat → Nat} {E : EB} {μ : MI} {d : Nat} {Q : Option Value → Wm → Prop} {pc : Nat} {L : List (Nat × Value)} {rest st : List Value} {m : Wm}
theorem aw_callV {idx ci b : Nat} {cs' : List Nat} {C' : String} {T : u_T} {N : Nat} {μ' : MI} (As : List Value) {Q' : Option Value → Wm → Prop} (hd : decode μ.2.1 pc = .ok (.invokevirtual idx, 3)) (he : lay[b]? = some (.inl (ci, cs'))) (hc : vwCl[ci]? = some (C', T, N)) (cw : CallV μ.2.2.2.1 idx C' μ' As.length) (hst : st = As.reverse ++ .ref (ad b) :: rest) (hM : Ctl lay ad μ' d (.ref (ad b) :: As) m Q') (hW : (rest.map fun v => v.category).sum ≤ 8)
    (k : ∀ v m', Q' v m' → AWl lay ad E μ (d + 1) Q (pc + 3) L (v.toList ++ rest) m') : AWl lay ad E μ (d + 1) Q pc L st m := by
  subst hst
  intro p l e R s mt args below meth c H locs cs sl G cA A ls Qz C hP hD hS hl
  obtain ⟨w1, w2, w3, w4, w5, w6, w7⟩ := cw
  have hts := C.1.2.2.2.2
  obtain ⟨hr1, hr2, hr3, hr4⟩ := C.2.2.2.2.1
  refine aw_run (va_runV (As := As) (rest := rest) (n := As.length) C.1 (hM l G cA H.size) ⟨callB_of As.length hts (good_tbl w5) rfl rfl rfl (hts _ w4) (hts _ w1) w6 ⟨hr1, by show 8 + (μ'.2.2.1 + 11) + 41 * d ≤ R.locals; omega⟩, hts _ w2, hts _ w3⟩ ⟨PCt.blind, va_recv C.2.1 hP hc (ob_at he), fun U hU hW' => ⟨rfl, by rw [hU], by rw [hU]; exact hP, va_K.moved hW'.alike C.2.1, hD.weaken (fun _ _ _ _ => trivial), NWs.warm hW' C.2.2.2.1.2.2⟩⟩ rfl rfl hl.1 rfl (lv_room hW) hd ⟨by omega, by omega⟩) hD hS C.2.2.1 (fun v m' H1 locs1 hq hP1 hD1 hS1 => k v m' hq p l e R s mt args below meth c H1 locs1 cs sl G cA A ls Qz C hP1 hD1 hS1 hl)
theorem aw_callS {idx : Nat} {μ' : MI} (As : List Value) {Q' : Option Value → Wm → Prop} (hd : decode μ.2.1 pc = .ok (.invokestatic idx, 3)) (cw : CallS μ.2.2.2.1 idx μ' As.length) (hst : st = As.reverse ++ rest) (hM : Ctl lay ad μ' d As m Q') (hW : (rest.map fun v => v.category).sum ≤ 8)
    (k : ∀ v m', Q' v m' → AWl lay ad E μ (d + 1) Q (pc + 3) L (v.toList ++ rest) m') : AWl lay ad E μ (d + 1) Q pc L st m := by
  subst hst
  intro p l e R s mt args below meth c H locs cs sl G cA A ls Qz C hP hD hS hl
  obtain ⟨w1, w2, w4, w5, w6, w7⟩ := cw
  have hts := C.1.2.2.2.2
  obtain ⟨hr1, hr2, hr3, hr4⟩ := C.2.2.2.2.1
  refine aw_run (va_runS (As := As) (rest := rest) (n := As.length) C.1 (hM l G cA H.size) ⟨callB_of As.length hts (good_tbl w5) rfl rfl rfl (hts _ w4) (hts _ w1) w6 ⟨hr1, by show 8 + (μ'.2.2.1 + 11) + 41 * d ≤ R.locals; omega⟩, hts _ w2⟩ ⟨PCt.blind, fun U hU hW' => ⟨rfl, by rw [hU], by rw [hU]; exact hP, va_K.moved hW'.alike C.2.1, hD.weaken (fun _ _ _ _ => trivial), NWs.warm hW' C.2.2.2.1.2.2⟩⟩ rfl rfl hl.1 rfl (lv_room hW) hd ⟨by omega, by omega⟩) hD hS C.2.2.1 (fun v m' H1 locs1 hq hP1 hD1 hS1 => k v m' hq p l e R s mt args below meth c H1 locs1 cs sl G cA A ls Qz C hP1 hD1 hS1 hl)
theorem aw_callN {idx : Nat} {host : String} {μ' : MI} (As : List Value) {Q' : Option Value → Wm → Prop} (hd : decode μ.2.1 pc = .ok (.invokestatic idx, 3)) (cw : CallN μ.2.2.2.1 idx host μ' As.length) (hst : st = As.reverse ++ rest) (hM : Ctl lay ad μ' d As m Q') (hW : (rest.map fun v => v.category).sum ≤ 8)
    (k : ∀ v m', Q' v m' → AWl lay ad E μ (d + 1) Q (pc + 3) L (v.toList ++ rest) m') : AWl lay ad E μ (d + 1) Q pc L st m := by
  subst hst
  intro p l e R s mt args below meth c H locs cs sl G cA A ls Qz C hP hD hS hl
  obtain ⟨w1, w2, w4, w5, w6, w7⟩ := cw
  have hts := C.1.2.2.2.2
  obtain ⟨hr1, hr2, hr3, hr4⟩ := C.2.2.2.2.1
  refine aw_run (va_runSN (As := As) (rest := rest) (n := As.length) (host := host) C.1 (hM l G cA H.size) ⟨⟨⟨rfl, rfl, hr1, by show 8 + (μ'.2.2.1 + 11) + 41 * d ≤ R.locals; omega, pay_in hts (good_tbl w5), List.mem_cons_self⟩, hts _ w5, hts _ w4, ⟨w6.1, w6.2.1⟩, fun sig h => by have h2 := w6.2.2; rw [h] at h2; exact (Option.some.inj h2).symm, va_Nw.use rfl (C.2.2.2.1.2.2.1 _ w1)⟩, hts _ w2, trivial⟩ ⟨PCt.blind, fun U hU hW' => ⟨rfl, by rw [hU], by rw [hU]; exact hP, va_K.moved hW'.alike C.2.1, hD.weaken (fun _ _ _ _ => trivial), NWs.warm hW' C.2.2.2.1.2.2⟩⟩ rfl rfl hl.1 rfl (lv_room hW) hd ⟨by omega, by omega⟩) hD hS C.2.2.1 (fun v m' H1 locs1 hq hP1 hD1 hS1 => k v m' hq p l e R s mt args below meth c H1 locs1 cs sl G cA A ls Qz C hP1 hD1 hS1 hl)
def MathOK (own : String) (idx : Nat) (y : MethodName) (b : ByteArray) : Prop := Cond.methodLink own idx y ∈ TW ∧ Cond.static y ∈ TW ∧ Cond.initialized "java/lang/Math" ∈ TW ∧ Cond.code y b 2 (some .int) ∈ TW
theorem aw_max {idx : Nat} {x y : Int32} (hd : decode μ.2.1 pc = .ok (.invokestatic idx, 3)) (cw : MathOK μ.2.2.2.1 idx Lib.Math.max.name Lib.Math.max.code) (hW : (rest.map fun v => v.category).sum ≤ 8) (k : AWl lay ad E μ (d + 1) Q (pc + 3) L (.int (if x < y then y else x) :: rest) m) : AWl lay ad E μ (d + 1) Q pc L (.int y :: .int x :: rest) m := fun p l e R s mt args below meth c H locs cs sl G cA A ls Qz C hP hD hS hl => va_mmax C.1.1 C.1.2.1 (C.1.2.2.1.trans hl.1.symm) C.1.2.2.2.1 (C.1.2.2.2.2 _ cw.1) (C.1.2.2.2.2 _ cw.2.1) (C.1.2.2.2.2 _ cw.2.2.1) (C.1.2.2.2.2 _ cw.2.2.2) (by have := C.2.2.2.2.1.1; omega) (by have := C.2.2.2.2.1.2.1; omega) (by have := C.2.2.2.2.1.2.2.1; omega) (by have := C.2.2.2.2.1.2.2.2; omega) hd (k p l e R s mt args below meth c H locs cs sl G cA A ls Qz C hP hD hS hl)
theorem aw_min {idx : Nat} {x y : Int32} (hd : decode μ.2.1 pc = .ok (.invokestatic idx, 3)) (cw : MathOK μ.2.2.2.1 idx Lib.Math.min.name Lib.Math.min.code) (hW : (rest.map fun v => v.category).sum ≤ 8) (k : AWl lay ad E μ (d + 1) Q (pc + 3) L (.int (if y < x then y else x) :: rest) m) : AWl lay ad E μ (d + 1) Q pc L (.int y :: .int x :: rest) m := fun p l e R s mt args below meth c H locs cs sl G cA A ls Qz C hP hD hS hl => va_mmin C.1.1 C.1.2.1 (C.1.2.2.1.trans hl.1.symm) C.1.2.2.2.1 (C.1.2.2.2.2 _ cw.1) (C.1.2.2.2.2 _ cw.2.1) (C.1.2.2.2.2 _ cw.2.2.1) (C.1.2.2.2.2 _ cw.2.2.2) (by have := C.2.2.2.2.1.1; omega) (by have := C.2.2.2.2.1.2.1; omega) (by have := C.2.2.2.2.1.2.2.1; omega) (by have := C.2.2.2.2.1.2.2.2; omega) hd (k p l e R s mt args below meth c H locs cs sl G cA A ls Qz C hP hD hS hl)
def uC (m : Wm) (a0 a sp dp n : Nat) : Wm := (fun b j => if b = a then va_cpy (m.1 a0) (m.1 a) sp dp n j else m.1 b j, m.2)
theorem set_cpy {lay : List Ent} {ad : Nat → Nat} {cA : Nat → ClassId} {m : Wm} {a a0 n sp dp k : Nat} (he : lay[a]? = some (.inr (0, n))) : (cellsOf lay ad cA m).set a (ad a, .inl (cA 0, n, .inl (va_cpy (m.1 a0) (m.1 a) sp dp k))) = cellsOf lay ad cA (uC m a0 a sp dp k) := by
  refine cells_set he ?_ (fun b hb => ⟨?_, rfl, rfl⟩)
  · show Sum.inl (cA 0, arrV' ad (uC m a0 a sp dp k) a 0 n) = _
    unfold arrV'
    rw [if_neg (by decide), if_pos (by decide)]
    congr 4
    funext j
    simp [uC]
  · funext j; simp [uC, hb]
theorem nfw : nativeFrameWords "java/lang/System" "arraycopy" 5 + 11 ≤ 33 := by decide +kernel
def CopyOK (own : String) (idx : Nat) : Prop := Cond.methodLink own idx arraycopyName ∈ TW ∧ Cond.native arraycopyName ∈ TW ∧ Cond.static arraycopyName ∈ TW ∧ Cond.initialized "java/lang/System" ∈ TW
theorem aw_copy {idx a a0 n n0 : Nat} {sp dp k : Int32} (hd : decode μ.2.1 pc = .ok (.invokestatic idx, 3)) (cw : CopyOK μ.2.2.2.1 idx) (h0 : lay[a0]? = some (.inr (0, n0))) (h1 : lay[a]? = some (.inr (0, n))) (g1 : ¬ sp < 0) (g2 : ¬ dp < 0) (g3 : ¬ k < 0) (g4 : sp.toNatClampNeg + k.toNatClampNeg ≤ n0) (g5 : dp.toNatClampNeg + k.toNatClampNeg ≤ n) (hW : (rest.map fun v => v.category).sum ≤ 8)
    (kk : AWl lay ad E μ (d + 1) Q (pc + 3) L rest (uC m a0 a sp.toNatClampNeg dp.toNatClampNeg k.toNatClampNeg)) : AWl lay ad E μ (d + 1) Q pc L (.int k :: .int dp :: .ref (ad a) :: .int sp :: .ref (ad a0) :: rest) m := fun p l e R s mt args below meth c H locs cs sl G cA A ls Qz C hP hD hS hl => va_copyi C.1.1 C.1.2.1 (C.1.2.2.1.trans hl.1.symm) C.1.2.2.2.1 (C.1.2.2.2.2 _ cw.1) (C.1.2.2.2.2 _ cw.2.1) (C.1.2.2.2.2 _ cw.2.2.1) (C.1.2.2.2.2 _ cw.2.2.2) C.2.1 hP hD hS a0 a 0 0 (arI_at h0 (by decide)) (arI_at h1 (by decide)) rfl rfl rfl g1 g2 g3 g4 g5 (fun _ _ => rfl) (by have := C.2.2.2.2.1.1; omega) (by have := C.2.2.2.2.1.2.1; have e := nfw; omega) hd (fun H1 locs1 hP1 hD1 hS1 => kk p l e R s mt args below meth c H1 locs1 cs sl G cA A ls Qz C (set_cpy h1 ▸ hP1) (cells_D hD) hS1 hl)
end AWC

