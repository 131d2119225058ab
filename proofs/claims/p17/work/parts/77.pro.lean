/-! THE LAW'S START: both objects, the law's long[1], and what they hold -/
def mz : Wm := (fun _ _ => 0, fun _ _ => 0, fun _ _ => none)
def lay1 : List Ent := N_X11 (ps [] (.inl (11, [2, 2, 2, 2, 2, 2, 2, 2, 2, 2, 2, 0, 2, 2, 2, 0, 2, 2, 0])))
def lay2 : List Ent := N_X12 (ps lay1 (.inl (12, [0, 0, 2, 2, 2, 2, 2, 2, 0, 2, 0, 0, 0, 2, 0, 2, 0, 0, 2, 0, 0, 0, 0, 2, 2, 2, 2, 0, 0, 2, 0, 2, 0, 0, 0, 0, 2, 2, 2, 2, 2, 2, 2, 0, 2, 0, 0, 2, 0, 0, 2, 2, 0, 0, 2, 2, 2])))
def lay3 : List Ent := ps lay2 (.inr (4, 1))
theorem lay1_len : lay1.length = 187 := by decide +kernel
theorem lay2_len : lay2.length = 217 := by decide +kernel
def m0 : Wm := zm (K_X12 (zm (K_X11 (zm mz 0)) 187) 187 188) 217
def entOK (r : Nat → Nat → Option Nat) (a : Nat) (e e' : Ent) : Bool := match e, e' with
  | .inl o, .inl o' => decide (o.1 = o'.1) && decide (o.2.length = o'.2.length) && (List.range o.2.length).all fun k => decide (o.2[k]? = o'.2[k]?) || (decide (o.2[k]? = some 2) && match o'.2[k]? with
    | some (t + 3) => decide (r a k = some t)
    | _ => false)
  | .inr q, .inr q' => decide (q = q')
  | _, _ => false
theorem entOK_eq {ad : Nat → Nat} {cA : Nat → ClassId} {m : Wm} {a : Nat} {e e' : Ent} (h : entOK m.2.2 a e e' = true) : cellE ad cA m a e = cellE ad cA m a e' := by
  unfold entOK at h
  split at h
  · rename_i o o'
    simp only [Bool.and_eq_true, decide_eq_true_eq] at h
    obtain ⟨⟨h1, h2⟩, h3⟩ := h
    show Sum.inr (o.1, fldVs ad m a o.2) = Sum.inr (o'.1, fldVs ad m a o'.2)
    rw [h1]
    congr 2
    apply List.ext_getElem?
    intro k
    by_cases hk : k < o.2.length
    · have h4 := List.all_eq_true.mp h3 k (List.mem_range.mpr hk)
      simp only [Bool.or_eq_true, Bool.and_eq_true, decide_eq_true_eq] at h4
      simp only [fldVs, List.getElem?_mapIdx]
      rcases h4 with h4 | ⟨h4, h5⟩
      · rw [h4]
      · rw [h4]
        split at h5
        · rename_i t ht
          rw [ht]
          have h6 : m.2.2 a k = some t := of_decide_eq_true h5
          show some (va_rf ((m.2.2 a k).map ad)) = some (Value.ref (ad t))
          rw [h6]
          rfl
        · cases h5
    · rw [List.getElem?_eq_none (by rw [fldVs_len]; omega), List.getElem?_eq_none (by rw [fldVs_len]; omega)]
  · have := of_decide_eq_true h
    rw [this]
  · cases h
def layOK (r : Nat → Nat → Option Nat) (l l' : List Ent) : Bool := decide (l.length = l'.length) && (List.range l.length).all fun a => match l[a]?, l'[a]? with
  | some e, some e' => entOK r a e e'
  | _, _ => false
theorem cells_lay {l l' : List Ent} {ad : Nat → Nat} {m : Wm} (h : layOK m.2.2 l l' = true) (cA : Nat → ClassId) : cellsOf l ad cA m = cellsOf l' ad cA m := by
  unfold layOK at h
  simp only [Bool.and_eq_true, decide_eq_true_eq] at h
  obtain ⟨h1, h2⟩ := h
  apply List.ext_getElem?
  intro a
  simp only [cellsOf, List.getElem?_mapIdx]
  by_cases ha : a < l.length
  · have h3 := List.all_eq_true.mp h2 a (List.mem_range.mpr ha)
    rw [List.getElem?_eq_getElem ha, List.getElem?_eq_getElem (h1 ▸ ha)] at h3 ⊢
    simp only [Option.map_some]
    rw [entOK_eq h3]
  · rw [List.getElem?_eq_none (by omega), List.getElem?_eq_none (by omega)]
set_option maxRecDepth 100000 in
theorem lay_ok : layOK m0.2.2 lay3 LAY = true := by decide +kernel
set_option maxRecDepth 100000 in
set_option maxHeartbeats 4000000 in
theorem law_start {bs d kc ks sb Ls : Nat} {xs : Nat → Int32} {Q : Option Value → Wm → Prop} (h : AWl LAY (adb bs) (EX (SX sb Ls xs) kc ks LAY) μL_law (d + 4) Q 23 [(0, .ref sb), (1, .ref (adb bs 0)), (2, .ref (adb bs 187)), (3, .ref (adb bs 217)), (4, .int 0)] [] m0) : AWl [] (adb bs) (EK (SX sb Ls xs) bs 0 (kc + 1 + 29 + 1 + 186 + 1) (ks + 1 + 28601 + 57 + 28692 + 19) LAY) μL_law (d + 4) Q 0 [(0, .ref sb)] [] mz := by
  refine aw_new (n := 0) (kc := kc + 1 + 29 + 1 + 186) (ks := ks + 1 + 28601 + 57 + 28692) (N := 19) dL_law_0 rfl nw_L_8 ?_
  refine aw_dup dL_law_3 rfl ?_
  refine aw_callI (n := 1) (kc := kc + 1 + 29 + 1) (ks := ks + 1 + 28601 + 57) (kc' := 186) (ks' := 28692) (lay1 := lay1) (m1 := K_X11 (zm mz 0)) (rest := [.ref (adb bs 0)]) [] dL_law_4 rfl (by omega) lay1_len ki_L_19 rfl (n_X11 (d := d) rfl rfl) (Nat.le_of_ble_eq_true rfl) ?_
  refine aw_astore_n (i := 1) (L' := [(1, .ref (adb bs 0)), (0, .ref sb)]) dL_law_7 rfl (by decide) rfl ?_
  refine aw_new (n := 187) (kc := kc + 1 + 29) (ks := ks + 1 + 28601) (N := 57) dL_law_8 lay1_len nw_L_20 ?_
  refine aw_dup dL_law_11 rfl ?_
  refine aw_callI (n := 188) (kc := kc + 1) (ks := ks + 1) (kc' := 29) (ks' := 28601) (lay1 := lay2) (m1 := K_X12 (zm (K_X11 (zm mz 0)) 187) 187 188) (rest := [.ref (adb bs 187)]) [] dL_law_12 (len_push lay1_len) (by omega) lay2_len ki_L_22 rfl (n_X12 (d := d + 2) (len_push lay1_len) (at_new lay1_len)) (Nat.le_of_ble_eq_true rfl) ?_
  refine aw_astore_n (i := 2) (L' := [(2, .ref (adb bs 187)), (1, .ref (adb bs 0)), (0, .ref sb)]) dL_law_15 rfl (by decide) rfl ?_
  refine aw_iconst (v := 1) dL_law_16 (by decide) ?_
  refine aw_newa4 (n := 217) (kc := kc) (ks := ks) (N := 1) dL_law_17 lay2_len ar_4 (by decide) (by decide) (by decide) ?_
  refine aw_astore_n (i := 3) (L' := [(3, .ref (adb bs 217)), (2, .ref (adb bs 187)), (1, .ref (adb bs 0)), (0, .ref sb)]) dL_law_19 rfl (by decide) rfl ?_
  refine aw_iconst (v := 0) dL_law_20 (by decide) ?_
  refine aw_istore (i := 4) (L' := [(4, .int 0), (3, .ref (adb bs 217)), (2, .ref (adb bs 187)), (1, .ref (adb bs 0)), (0, .ref sb)]) dL_law_21 (by decide) rfl ?_
  refine aw_lay (lay' := LAY) (fun cA => cells_lay lay_ok cA) ?_
  exact aw_sub [4, 3, 2, 1, 0] rfl h
theorem NW_in : ∀ q ∈ NW, Cond.methodLinkNest q.1 q.2.1 q.2.2.1 q.2.2.2 ∈ lw_tbl := by decide +kernel
theorem AO_0 : Cond.arrayOver (.object RX0) ∈ lw_tbl := List.mem_of_getElem? (i := 315) (by decide +kernel)
theorem AO_8 : Cond.arrayOver (.object RX8) ∈ lw_tbl := List.mem_of_getElem? (i := 301) (by decide +kernel)
theorem ls_U : Cond.laysStatic Bundle.tN "UNASSIGNED_STACK" Bundle.steD ∈ lw_tbl := List.mem_of_getElem? (i := 1213) (by decide +kernel)
theorem ls_S : Cond.laysStatic Bundle.tN "SUPPRESSED_SENTINEL" Bundle.listD ∈ lw_tbl := List.mem_of_getElem? (i := 1215) (by decide +kernel)
theorem ini_T : Cond.initialized Bundle.tN ∈ lw_tbl := by decide +kernel
theorem arr_known {s : State} {args : Array Value} {ty : FieldType} (hp : ∀ C, ty ≠ .object C) (h : (Cond.arrayClass ty).before args s = true) : ∃ c, ArrOfT s c ty ∧ va_RA s c ty := by
  obtain ⟨c, k, comp, h1, h2, h3⟩ := Cond.arrayClass_spec h
  refine ⟨c, fun N z => ⟨(fun k h => by cases h), k, h2, comp, h3⟩, ?_⟩
  unfold va_RA
  split
  · rename_i C
    exact absurd rfl (hp C)
  · exact h1
theorem arr_knownO {s : State} {args : Array Value} {C : String} (h : (Cond.arrayOver (.object C)).before args s = true) : ∃ c, ArrOfT s c (.object C) ∧ va_RA s c (.object C) := by
  obtain ⟨comp, c, k, h1, h2, h3, h4, h5⟩ := Cond.arrayOver_spec h
  exact ⟨c, fun N z => ⟨(fun k h => by cases h), k, h3, comp, h4⟩, k, comp, h3, h4, h1, h5⟩

theorem known0 {s : State} {args : Array Value} (hts : ∀ w ∈ lw_tbl, w.before args s = true) : ∃ (G : va_G) (cA : Nat → ClassId), va_K G vwCl (tysOf cA) s := by
  have hw : ∀ w ∈ TW, w.before args s = true := fun w h => hts w (TW_sub h)
  obtain ⟨c0, i0, k0⟩ := u_known (C := RX0) (T := TX0) hw nw_X11_47.1 (hw _ nw_X11_47.2.2.2.1)
  obtain ⟨c1, i1, k1⟩ := u_known (C := RX1) (T := TX1) hw nw_X11_16.1 (hw _ nw_X11_16.2.2.2.1)
  obtain ⟨c2, i2, k2⟩ := u_known (C := RX2) (T := TX2) hw nw_X11_40.1 (hw _ nw_X11_40.2.2.2.1)
  obtain ⟨c3, i3, k3⟩ := u_known (C := RX3) (T := TX3) hw nw_X11_53.1 (hw _ nw_X11_53.2.2.2.1)
  obtain ⟨c4, i4, k4⟩ := u_known (C := RX4) (T := TX4) hw nw_X11_23.1 (hw _ nw_X11_23.2.2.2.1)
  obtain ⟨c5, i5, k5⟩ := u_known (C := RX5) (T := TX5) hw nw_X1_15.1 (hw _ nw_X1_15.2.2.2.1)
  obtain ⟨c6, i6, k6⟩ := u_known (C := RX6) (T := TX6) hw nw_X11_93.1 (hw _ nw_X11_93.2.2.2.1)
  obtain ⟨c7, i7, k7⟩ := u_known (C := RX7) (T := TX7) hw nw_X11_102.1 (hw _ nw_X11_102.2.2.2.1)
  obtain ⟨c8, i8, k8⟩ := u_known (C := RX8) (T := TX8) hw nw_X4_9.1 (hw _ nw_X4_9.2.2.2.1)
  obtain ⟨c9, i9, k9⟩ := u_known (C := RX9) (T := TX9) hw nw_X11_90.1 (hw _ nw_X11_90.2.2.2.1)
  obtain ⟨c10, i10, k10⟩ := u_known (C := RX10) (T := TX10) hw nw_X11_9.1 (hw _ nw_X11_9.2.2.2.1)
  obtain ⟨c11, i11, k11⟩ := u_known (C := RX11) (T := TX11) hw nw_L_8.1 (hw _ nw_L_8.2.2.2.1)
  obtain ⟨c12, i12, k12⟩ := u_known (C := RX12) (T := TX12) hw nw_L_20.1 (hw _ nw_L_20.2.2.2.1)
  obtain ⟨t0, a0⟩ := arr_known (ty := .int) (fun C h => by cases h) (hw _ ar_0)
  obtain ⟨t1, a1⟩ := arr_known (ty := .byte) (fun C h => by cases h) (hw _ ar_1)
  obtain ⟨t2, a2⟩ := arr_known (ty := .char) (fun C h => by cases h) (hw _ ar_2)
  obtain ⟨t3, a3⟩ := arr_known (ty := .boolean) (fun C h => by cases h) (hw _ ar_3)
  obtain ⟨t4, a4⟩ := arr_known (ty := .long) (fun C h => by cases h) (hw _ ar_4)
  obtain ⟨t5, a5⟩ := arr_knownO (hts _ AO_0)
  obtain ⟨t6, a6⟩ := arr_knownO (hts _ AO_8)
  refine ⟨(fun k => [c0, c1, c2, c3, c4, c5, c6, c7, c8, c9, c10, c11, c12].getD k c0, fun k => [i0, i1, i2, i3, i4, i5, i6, i7, i8, i9, i10, i11, i12].getD k i0), fun k => [t0, t1, t2, t3, t4, t5, t6].getD k t0, fun c q hq => ?_, fun k q hq => ?_⟩
  · have hc : c < 13 := (List.getElem?_eq_some_iff.mp hq).1
    match c, hc, hq with
    | 0, _, hq => cases hq; exact k0
    | 1, _, hq => cases hq; exact k1
    | 2, _, hq => cases hq; exact k2
    | 3, _, hq => cases hq; exact k3
    | 4, _, hq => cases hq; exact k4
    | 5, _, hq => cases hq; exact k5
    | 6, _, hq => cases hq; exact k6
    | 7, _, hq => cases hq; exact k7
    | 8, _, hq => cases hq; exact k8
    | 9, _, hq => cases hq; exact k9
    | 10, _, hq => cases hq; exact k10
    | 11, _, hq => cases hq; exact k11
    | 12, _, hq => cases hq; exact k12
  · have hc : k < 7 := (List.getElem?_eq_some_iff.mp hq).1
    match k, hc, hq with
    | 0, _, hq => cases hq; exact a0
    | 1, _, hq => cases hq; exact a1
    | 2, _, hq => cases hq; exact a2
    | 3, _, hq => cases hq; exact a3
    | 4, _, hq => cases hq; exact a4
    | 5, _, hq => cases hq; exact a5
    | 6, _, hq => cases hq; exact a6

theorem pro_start {p : Program} {l : Launch} {e : Env} {R : Room} {s : State} {m : MethodId} {below : List Frame} {meth : Method} {c : Code} {b Ls : Nat} {xs : Nat → Int32} {Qz : State → Prop} {kc ks d : Nat} (hx : p.tables.exec = Jvm.exec) (hb : c.code = code) (hml : c.maxLocals = 8) (hown : s.vm.findClass RL = some m.cls) (hts : ∀ w ∈ lw_tbl, w.before #[Value.ref b] s = true) (hX : va_X b Ls xs s s.heap) (hbl : b < s.heap.size) (hl0 : l.stackTraces = false)
    (hU : (Cond.isRef (.static Bundle.tN "UNASSIGNED_STACK" Bundle.steD)).before #[Value.ref b] s = true) (hN : (Cond.isRef (.static Bundle.tN "SUPPRESSED_SENTINEL" Bundle.listD)).before #[Value.ref b] s = true) (hr : d + 4 ≤ R.frames ∧ 41 * (d + 4) ≤ R.locals ∧ kc + 1 + 29 + 1 + 186 + 1 ≤ R.cells ∧ ks + 1 + 28601 + 57 + 28692 + 19 ≤ R.slots)
    (hret : ∀ (pc : Nat) (H : Heap) (ls : Array Slot) (locs : List Loc) (cs sl : Nat), decode code pc = .ok (.ireturn, 1) → (∀ q ∈ locs, s.heap.size ≤ q.base) → cs ≤ R.cells → sl ≤ R.slots → W p l e R s m #[Value.ref b] below meth c H locs cs sl Qz (F0 m pc ls [.int 1]))
    (h : ∀ bs, AWl LAY (adb bs) (EX (SX b Ls xs) kc ks LAY) μL_law (d + 4) (fun v _ => v = some (.int 1)) 23 [(0, .ref b), (1, .ref (adb bs 0)), (2, .ref (adb bs 187)), (3, .ref (adb bs 217)), (4, .int 0)] [] m0) : W p l e R s m #[Value.ref b] below meth c s.heap [] 0 0 Qz (entryFrame m ([Value.ref b] : List Value).toArray 8) := by
  obtain ⟨G, cA, hK⟩ := known0 hts
  have hA : ∀ a : Nat, a < s.heap.size → ¬ s.heap.size ≤ a := fun a h1 h2 => absurd h1 (Nat.not_lt.mpr h2)
  have hXT : XT s (fun q => s.heap.size ≤ q) := ⟨fun w hw => by
      have h1 := List.all_eq_true.mp XWs_ok w hw
      simp only [Bool.and_eq_true] at h1
      exact va_tabs h1.1 rfl (hts w (XWs_in w hw)), vx_Zqof (hts _ ls_U) (hts _ ini_T) hU hA, vx_Zqof (hts _ ls_S) (hts _ ini_T) hN hA⟩
  have hNW : NWs s := ⟨fun q hq => va_Nw.of rfl (hts _ (NW_in q hq)), va_AO.of (hts _ AO_0), va_AO.of (hts _ AO_8)⟩
  have h0 : AWl [] (adb s.heap.size) (EK (SX b Ls xs) s.heap.size 0 (kc + 1 + 29 + 1 + 186 + 1) (ks + 1 + 28601 + 57 + 28692 + 19) LAY) μL_law (d + 4) (fun v _ => v = some (.int 1)) 0 (lv_args 0 [.ref b]) [] mz := aw_eq (L' := [(0, .ref b)]) (law_start (h _)) rfl rfl rfl
  rw [lg_entry_eq]
  refine h0 p l e R s m _ below meth c s.heap [] 0 0 G cA (fun q => s.heap.size ≤ q) _ _ ⟨⟨hx, hb, hml, hown, fun w hw => hts w (TW_sub hw)⟩, hK, fun q hq => hq, ⟨⟨⟨rfl, fun q hq => hq⟩, hX, hbl, hA b hbl, hl0, hXT⟩, fun h => absurd h (by decide), hNW⟩, ⟨hr.1, hr.2.1, by show 0 + (kc + 1 + 29 + 1 + 186 + 1) ≤ R.cells; omega, by show 0 + (ks + 1 + 28601 + 57 + 28692 + 19) ≤ R.slots; omega⟩, ?_⟩ (fun k q hk => by simp [cellsOf] at hk) ⟨fun i j p q hp => by simp [cellsOf] at hp, fun k q hk => by simp [cellsOf] at hk⟩ va_S.rf (lv_entry [.ref b] (Nat.le_of_ble_eq_true rfl))
  intro v w H' locs' pc' ls' cs' sl' hrt hc1 hc2 hq hP' hD' hS'
  subst hq
  rcases hrt with ⟨h1, -, -⟩ | ⟨x, ty, h1, -, -, hd⟩ | ⟨x, h1, -, -⟩
  · cases h1
  · cases h1
    exact hret pc' H' ls' locs' cs' sl' hd hS'.2.2 hc1 hc2
  · cases h1
