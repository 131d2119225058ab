section
/-! THE LAW'S START: both objects, the law's long[1], and what they hold -/
def mz : Wm := (fun _ _ => 0, fun _ _ => 0, fun _ _ => none)
def lay1 : List Ent := N_X11 (ps [] (.inl (11, [2, 2, 2, 2, 2, 2, 2, 2, 2, 2, 2, 0, 2, 2, 2, 0, 2, 2, 0])))
def lay2 : List Ent := N_X12 (ps lay1 (.inl (12, [0, 0, 2, 2, 2, 2, 2, 2, 0, 2, 0, 0, 0, 2, 0, 2, 0, 0, 2, 0, 0, 0, 0, 2, 2, 2, 2, 0, 0, 2, 0, 2, 0, 0, 0, 0, 2, 2, 2, 2, 2, 2, 2, 0, 2, 0, 0, 2, 0, 0, 2, 2, 0, 0, 2, 2, 2])))
def lay3 : List Ent := ps lay2 (.inr (4, 1))
theorem lay1_len : lay1.length = 187 := by decide +kernel
theorem lay2_len : lay2.length = 217 := by decide +kernel
def m0 : Wm := zm (K_X12 (zm (K_X11 (zm mz 0)) 187) 187 188) 217
def entOK (r : Nat → Nat → Option Nat) (a : Nat) (e e' : Ent) : Bool := match e, e' with
  | .inl o, .inl o' => decide (o.1 = o'.1) && decide (o.2.length = o'.2.length) && (List.range o.2.length).all fun k => decide (o.2[k]? = o'.2[k]?) || (decide (o.2[k]? = some 2) && match o'.2[k]? with
    | some (t + 3) => decide (r a k = some t)
    | _ => false)
  | .inr q, .inr q' => decide (q = q')
  | _, _ => false
theorem entOK_eq {ad : Nat → Nat} {cA : Nat → ClassId} {m : Wm} {a : Nat} {e e' : Ent} (h : entOK m.2.2 a e e' = true) : cellE ad cA m a e = cellE ad cA m a e' := by
  unfold entOK at h
  split at h
  · rename_i o o'
    simp only [Bool.and_eq_true, decide_eq_true_eq] at h
    obtain ⟨⟨h1, h2⟩, h3⟩ := h
    show Sum.inr (o.1, fldVs ad m a o.2) = Sum.inr (o'.1, fldVs ad m a o'.2)
    rw [h1]
    congr 2
    apply List.ext_getElem?
    intro k
    by_cases hk : k < o.2.length
    · have h4 := List.all_eq_true.mp h3 k (List.mem_range.mpr hk)
      simp only [Bool.or_eq_true, Bool.and_eq_true, decide_eq_true_eq] at h4
      simp only [fldVs, List.getElem?_mapIdx]
      rcases h4 with h4 | ⟨h4, h5⟩
      · rw [h4]
      · rw [h4]
        split at h5
        · rename_i t ht
          rw [ht]
          have h6 : m.2.2 a k = some t := of_decide_eq_true h5
          show some (va_rf ((m.2.2 a k).map ad)) = some (Value.ref (ad t))
          rw [h6]
          rfl
        · cases h5
    · rw [List.getElem?_eq_none (by rw [fldVs_len]; omega), List.getElem?_eq_none (by rw [fldVs_len]; omega)]
  · have := of_decide_eq_true h
    rw [this]
  · cases h
def layOK (r : Nat → Nat → Option Nat) (l l' : List Ent) : Bool := decide (l.length = l'.length) && (List.range l.length).all fun a => match l[a]?, l'[a]? with
  | some e, some e' => entOK r a e e'
  | _, _ => false
theorem cells_lay {l l' : List Ent} {ad : Nat → Nat} {m : Wm} (h : layOK m.2.2 l l' = true) (cA : Nat → ClassId) : cellsOf l ad cA m = cellsOf l' ad cA m := by
  unfold layOK at h
  simp only [Bool.and_eq_true, decide_eq_true_eq] at h
  obtain ⟨h1, h2⟩ := h
  apply List.ext_getElem?
  intro a
  simp only [cellsOf, List.getElem?_mapIdx]
  by_cases ha : a < l.length
  · have h3 := List.all_eq_true.mp h2 a (List.mem_range.mpr ha)
    rw [List.getElem?_eq_getElem ha, List.getElem?_eq_getElem (h1 ▸ ha)] at h3 ⊢
    simp only [Option.map_some]
    rw [entOK_eq h3]
  · rw [List.getElem?_eq_none (by omega), List.getElem?_eq_none (by omega)]
set_option maxRecDepth 100000 in
theorem lay_ok : layOK m0.2.2 lay3 LAY = true := by decide +kernel
set_option maxRecDepth 100000 in
set_option maxHeartbeats 4000000 in
theorem law_start {bs d kc ks sb Ls : Nat} {xs : Nat → Int32} {Q : Option Value → Wm → Prop} (h : AWl LAY (adb bs) (EX (SX sb Ls xs) kc ks LAY) μL_law (d + 4) Q 23 [(0, .ref sb), (1, .ref (adb bs 0)), (2, .ref (adb bs 187)), (3, .ref (adb bs 217)), (4, .int 0)] [] m0) : AWl [] (adb bs) (EK (SX sb Ls xs) bs 0 (kc + 1 + 29 + 1 + 186 + 1) (ks + 1 + 28601 + 57 + 28692 + 19) LAY) μL_law (d + 4) Q 0 [(0, .ref sb)] [] mz := by
  refine aw_new (n := 0) (kc := kc + 1 + 29 + 1 + 186) (ks := ks + 1 + 28601 + 57 + 28692) (N := 19) dL_law_0 rfl nw_L_8 ?_
  refine aw_dup dL_law_3 rfl ?_
  refine aw_callI (n := 1) (kc := kc + 1 + 29 + 1) (ks := ks + 1 + 28601 + 57) (kc' := 186) (ks' := 28692) (lay1 := lay1) (m1 := K_X11 (zm mz 0)) (rest := [.ref (adb bs 0)]) [] dL_law_4 rfl (by omega) lay1_len ki_L_19 rfl (n_X11 (d := d) rfl rfl) (Nat.le_of_ble_eq_true rfl) ?_
  refine aw_astore_n (i := 1) (L' := [(1, .ref (adb bs 0)), (0, .ref sb)]) dL_law_7 rfl (by decide) rfl ?_
  refine aw_new (n := 187) (kc := kc + 1 + 29) (ks := ks + 1 + 28601) (N := 57) dL_law_8 lay1_len nw_L_20 ?_
  refine aw_dup dL_law_11 rfl ?_
  refine aw_callI (n := 188) (kc := kc + 1) (ks := ks + 1) (kc' := 29) (ks' := 28601) (lay1 := lay2) (m1 := K_X12 (zm (K_X11 (zm mz 0)) 187) 187 188) (rest := [.ref (adb bs 187)]) [] dL_law_12 (len_push lay1_len) (by omega) lay2_len ki_L_22 rfl (n_X12 (d := d + 2) (len_push lay1_len) (at_new lay1_len)) (Nat.le_of_ble_eq_true rfl) ?_
  refine aw_astore_n (i := 2) (L' := [(2, .ref (adb bs 187)), (1, .ref (adb bs 0)), (0, .ref sb)]) dL_law_15 rfl (by decide) rfl ?_
  refine aw_iconst (v := 1) dL_law_16 (by decide) ?_
  refine aw_newa4 (n := 217) (kc := kc) (ks := ks) (N := 1) dL_law_17 lay2_len ar_4 (by decide) (by decide) (by decide) ?_
  refine aw_astore_n (i := 3) (L' := [(3, .ref (adb bs 217)), (2, .ref (adb bs 187)), (1, .ref (adb bs 0)), (0, .ref sb)]) dL_law_19 rfl (by decide) rfl ?_
  refine aw_iconst (v := 0) dL_law_20 (by decide) ?_
  refine aw_istore (i := 4) (L' := [(4, .int 0), (3, .ref (adb bs 217)), (2, .ref (adb bs 187)), (1, .ref (adb bs 0)), (0, .ref sb)]) dL_law_21 (by decide) rfl ?_
  refine aw_lay (lay' := LAY) (fun cA => cells_lay lay_ok cA) ?_
  exact aw_sub [4, 3, 2, 1, 0] rfl h
theorem NW_in : ∀ q ∈ NW, Cond.methodLinkNest q.1 q.2.1 q.2.2.1 q.2.2.2 ∈ lw_tbl := by decide +kernel
theorem AO_0 : Cond.arrayOver (.object RX0) ∈ lw_tbl := List.mem_of_getElem? (i := 315) (by decide +kernel)
theorem AO_8 : Cond.arrayOver (.object RX8) ∈ lw_tbl := List.mem_of_getElem? (i := 301) (by decide +kernel)
theorem ls_U : Cond.laysStatic Bundle.tN "UNASSIGNED_STACK" Bundle.steD ∈ lw_tbl := List.mem_of_getElem? (i := 1213) (by decide +kernel)
theorem ls_S : Cond.laysStatic Bundle.tN "SUPPRESSED_SENTINEL" Bundle.listD ∈ lw_tbl := List.mem_of_getElem? (i := 1215) (by decide +kernel)
theorem ini_T : Cond.initialized Bundle.tN ∈ lw_tbl := by decide +kernel
theorem arr_known {s : State} {args : Array Value} {ty : FieldType} (hp : ∀ C, ty ≠ .object C) (h : (Cond.arrayClass ty).before args s = true) : ∃ c, ArrOfT s c ty ∧ va_RA s c ty := by
  obtain ⟨c, k, comp, h1, h2, h3⟩ := Cond.arrayClass_spec h
  refine ⟨c, fun N z => ⟨(fun k h => by cases h), k, h2, comp, h3⟩, ?_⟩
  unfold va_RA
  split
  · rename_i C
    exact absurd rfl (hp C)
  · exact h1
theorem arr_knownO {s : State} {args : Array Value} {C : String} (h : (Cond.arrayOver (.object C)).before args s = true) : ∃ c, ArrOfT s c (.object C) ∧ va_RA s c (.object C) := by
  obtain ⟨comp, c, k, h1, h2, h3, h4, h5⟩ := Cond.arrayOver_spec h
  exact ⟨c, fun N z => ⟨(fun k h => by cases h), k, h3, comp, h4⟩, k, comp, h3, h4, h1, h5⟩

theorem known0 {s : State} {args : Array Value} (hts : ∀ w ∈ lw_tbl, w.before args s = true) : ∃ (G : va_G) (cA : Nat → ClassId), va_K G vwCl (tysOf cA) s := by
  have hw : ∀ w ∈ TW, w.before args s = true := fun w h => hts w (TW_sub h)
  obtain ⟨c0, i0, k0⟩ := u_known (C := RX0) (T := TX0) hw nw_X11_47.1 (hw _ nw_X11_47.2.2.2.1)
  obtain ⟨c1, i1, k1⟩ := u_known (C := RX1) (T := TX1) hw nw_X11_16.1 (hw _ nw_X11_16.2.2.2.1)
  obtain ⟨c2, i2, k2⟩ := u_known (C := RX2) (T := TX2) hw nw_X11_40.1 (hw _ nw_X11_40.2.2.2.1)
  obtain ⟨c3, i3, k3⟩ := u_known (C := RX3) (T := TX3) hw nw_X11_53.1 (hw _ nw_X11_53.2.2.2.1)
  obtain ⟨c4, i4, k4⟩ := u_known (C := RX4) (T := TX4) hw nw_X11_23.1 (hw _ nw_X11_23.2.2.2.1)
  obtain ⟨c5, i5, k5⟩ := u_known (C := RX5) (T := TX5) hw nw_X1_15.1 (hw _ nw_X1_15.2.2.2.1)
  obtain ⟨c6, i6, k6⟩ := u_known (C := RX6) (T := TX6) hw nw_X11_93.1 (hw _ nw_X11_93.2.2.2.1)
  obtain ⟨c7, i7, k7⟩ := u_known (C := RX7) (T := TX7) hw nw_X11_102.1 (hw _ nw_X11_102.2.2.2.1)
  obtain ⟨c8, i8, k8⟩ := u_known (C := RX8) (T := TX8) hw nw_X4_9.1 (hw _ nw_X4_9.2.2.2.1)
  obtain ⟨c9, i9, k9⟩ := u_known (C := RX9) (T := TX9) hw nw_X11_90.1 (hw _ nw_X11_90.2.2.2.1)
  obtain ⟨c10, i10, k10⟩ := u_known (C := RX10) (T := TX10) hw nw_X11_9.1 (hw _ nw_X11_9.2.2.2.1)
  obtain ⟨c11, i11, k11⟩ := u_known (C := RX11) (T := TX11) hw nw_L_8.1 (hw _ nw_L_8.2.2.2.1)
  obtain ⟨c12, i12, k12⟩ := u_known (C := RX12) (T := TX12) hw nw_L_20.1 (hw _ nw_L_20.2.2.2.1)
  obtain ⟨t0, a0⟩ := arr_known (ty := .int) (fun C h => by cases h) (hw _ ar_0)
  obtain ⟨t1, a1⟩ := arr_known (ty := .byte) (fun C h => by cases h) (hw _ ar_1)
  obtain ⟨t2, a2⟩ := arr_known (ty := .char) (fun C h => by cases h) (hw _ ar_2)
  obtain ⟨t3, a3⟩ := arr_known (ty := .boolean) (fun C h => by cases h) (hw _ ar_3)
  obtain ⟨t4, a4⟩ := arr_known (ty := .long) (fun C h => by cases h) (hw _ ar_4)
  obtain ⟨t5, a5⟩ := arr_knownO (hts _ AO_0)
  obtain ⟨t6, a6⟩ := arr_knownO (hts _ AO_8)
  refine ⟨(fun k => [c0, c1, c2, c3, c4, c5, c6, c7, c8, c9, c10, c11, c12].getD k c0, fun k => [i0, i1, i2, i3, i4, i5, i6, i7, i8, i9, i10, i11, i12].getD k i0), fun k => [t0, t1, t2, t3, t4, t5, t6].getD k t0, fun c q hq => ?_, fun k q hq => ?_⟩
  · have hc : c < 13 := (List.getElem?_eq_some_iff.mp hq).1
    match c, hc, hq with
    | 0, _, hq => cases hq; exact k0
    | 1, _, hq => cases hq; exact k1
    | 2, _, hq => cases hq; exact k2
    | 3, _, hq => cases hq; exact k3
    | 4, _, hq => cases hq; exact k4
    | 5, _, hq => cases hq; exact k5
    | 6, _, hq => cases hq; exact k6
    | 7, _, hq => cases hq; exact k7
    | 8, _, hq => cases hq; exact k8
    | 9, _, hq => cases hq; exact k9
    | 10, _, hq => cases hq; exact k10
    | 11, _, hq => cases hq; exact k11
    | 12, _, hq => cases hq; exact k12
  · have hc : k < 7 := (List.getElem?_eq_some_iff.mp hq).1
    match k, hc, hq with
    | 0, _, hq => cases hq; exact a0
    | 1, _, hq => cases hq; exact a1
    | 2, _, hq => cases hq; exact a2
    | 3, _, hq => cases hq; exact a3
    | 4, _, hq => cases hq; exact a4
    | 5, _, hq => cases hq; exact a5
    | 6, _, hq => cases hq; exact a6

theorem pro_start {p : Program} {l : Launch} {e : Env} {R : Room} {s : State} {m : MethodId} {below : List Frame} {meth : Method} {c : Code} {b Ls : Nat} {xs : Nat → Int32} {Qz : State → Prop} {kc ks d : Nat} (hx : p.tables.exec = Jvm.exec) (hb : c.code = code) (hml : c.maxLocals = 8) (hown : s.vm.findClass RL = some m.cls) (hts : ∀ w ∈ lw_tbl, w.before #[Value.ref b] s = true) (hX : va_X b Ls xs s s.heap) (hbl : b < s.heap.size) (hl0 : l.stackTraces = false)
    (hU : (Cond.isRef (.static Bundle.tN "UNASSIGNED_STACK" Bundle.steD)).before #[Value.ref b] s = true) (hN : (Cond.isRef (.static Bundle.tN "SUPPRESSED_SENTINEL" Bundle.listD)).before #[Value.ref b] s = true) (hr : d + 4 ≤ R.frames ∧ 41 * (d + 4) ≤ R.locals ∧ kc + 1 + 29 + 1 + 186 + 1 ≤ R.cells ∧ ks + 1 + 28601 + 57 + 28692 + 19 ≤ R.slots)
    (hret : ∀ (pc : Nat) (H : Heap) (ls : Array Slot) (locs : List Loc) (cs sl : Nat), decode code pc = .ok (.ireturn, 1) → (∀ q ∈ locs, s.heap.size ≤ q.base) → cs ≤ R.cells → sl ≤ R.slots → W p l e R s m #[Value.ref b] below meth c H locs cs sl Qz (F0 m pc ls [.int 1]))
    (h : ∀ bs, AWl LAY (adb bs) (EX (SX b Ls xs) kc ks LAY) μL_law (d + 4) (fun v _ => v = some (.int 1)) 23 [(0, .ref b), (1, .ref (adb bs 0)), (2, .ref (adb bs 187)), (3, .ref (adb bs 217)), (4, .int 0)] [] m0) : W p l e R s m #[Value.ref b] below meth c s.heap [] 0 0 Qz (entryFrame m ([Value.ref b] : List Value).toArray 8) := by
  obtain ⟨G, cA, hK⟩ := known0 hts
  have hA : ∀ a : Nat, a < s.heap.size → ¬ s.heap.size ≤ a := fun a h1 h2 => absurd h1 (Nat.not_lt.mpr h2)
  have hXT : XT s (fun q => s.heap.size ≤ q) := ⟨fun w hw => by
      have h1 := List.all_eq_true.mp XWs_ok w hw
      simp only [Bool.and_eq_true] at h1
      exact va_tabs h1.1 rfl (hts w (XWs_in w hw)), vx_Zqof (hts _ ls_U) (hts _ ini_T) hU hA, vx_Zqof (hts _ ls_S) (hts _ ini_T) hN hA⟩
  have hNW : NWs s := ⟨fun q hq => va_Nw.of rfl (hts _ (NW_in q hq)), va_AO.of (hts _ AO_0), va_AO.of (hts _ AO_8)⟩
  have h0 : AWl [] (adb s.heap.size) (EK (SX b Ls xs) s.heap.size 0 (kc + 1 + 29 + 1 + 186 + 1) (ks + 1 + 28601 + 57 + 28692 + 19) LAY) μL_law (d + 4) (fun v _ => v = some (.int 1)) 0 (lv_args 0 [.ref b]) [] mz := aw_eq (L' := [(0, .ref b)]) (law_start (h _)) rfl rfl rfl
  rw [lg_entry_eq]
  refine h0 p l e R s m _ below meth c s.heap [] 0 0 G cA (fun q => s.heap.size ≤ q) _ _ ⟨⟨hx, hb, hml, hown, fun w hw => hts w (TW_sub hw)⟩, hK, fun q hq => hq, ⟨⟨⟨rfl, fun q hq => hq⟩, hX, hbl, hA b hbl, hl0, hXT⟩, fun h => absurd h (by decide), hNW⟩, ⟨hr.1, hr.2.1, by show 0 + (kc + 1 + 29 + 1 + 186 + 1) ≤ R.cells; omega, by show 0 + (ks + 1 + 28601 + 57 + 28692 + 19) ≤ R.slots; omega⟩, ?_⟩ (fun k q hk => by simp [cellsOf] at hk) ⟨fun i j p q hp => by simp [cellsOf] at hp, fun k q hk => by simp [cellsOf] at hk⟩ va_S.rf (lv_entry [.ref b] (Nat.le_of_ble_eq_true rfl))
  intro v w H' locs' pc' ls' cs' sl' hrt hc1 hc2 hq hP' hD' hS'
  subst hq
  rcases hrt with ⟨h1, -, -⟩ | ⟨x, ty, h1, -, -, hd⟩ | ⟨x, h1, -, -⟩
  · cases h1
  · cases h1
    exact hret pc' H' ls' locs' cs' sl' hd hS'.2.2 hc1 hc2
  · cases h1
end
section
/-! THE LOOP OF THE LAW: from an invariant to the next by one call each -/
theorem Ctg.mono {ad : Nat → Nat} {μ : MI} {hh : List (Nat × Nat × Nat × Nat)} {d kc ks : Nat} {args : List Value} {m : Wm} {Q Q' : Option Value → Wm → Prop} (h : Ctg ad μ hh d kc ks args m Q) (hq : ∀ v m', Q v m' → Q' v m') : Ctg ad μ hh d kc ks args m Q' := by
  intro l G cA sz hl p e ha hc hk s mt args' below hf happ hP hK
  obtain ⟨t, o, h1, h2, h3, ⟨⟨v, m', e1, e2, e3⟩, e4⟩, h5⟩ := h l G cA sz hl p e ha hc hk s mt args' below hf happ hP hK
  exact ⟨t, o, h1, h2, h3, ⟨⟨v, m', e1, hq v m' e2, e3⟩, e4⟩, h5⟩
def OpI (ad : Nat → Nat) (d : Nat) (μ μ' : MI) (as : List Value) (I J : Wm → Prop) : Prop := ∀ m, I m → Ct ad μ (d + 300) (.ref (ad 0) :: as) m (fun r m1 => ∃ v : Int32, r = some (.int v) ∧ Ct ad μ' (d + 300) (.ref (ad 187) :: as) m1 (fun r m2 => r = some (.int v) ∧ J m2))
def OpOf (ad : Nat → Nat) (d : Nat) (a b : Int32) (I J : Wm → Prop) : Prop := ∀ m, I m → Ctg ad μL_of hL_of (d + 300) 1 6 [.ref (ad 0), .int a, .int b, .ref (ad 217)] m (fun r m1 => ∃ v : Int32, r = some (.int v) ∧ Ct ad μX12_of (d + 300) [.ref (ad 187), .int a, .int b] m1 (fun r m3 => ∃ w : Int32, r = some (.int w) ∧ m3.1 187 17 = v ∧ (v = 0 → m3.2.1 217 (0 : Int32).toNatClampNeg = w.toInt64) ∧ J m3))
def OpRow (ad : Nat → Nat) (d : Nat) (a : Int32) (I J : Wm → Prop) : Prop := ∀ m, I m → Ctg ad μL_row hL_row (d + 300) 1 6 [.ref (ad 0), .int a, .ref (ad 217)] m (fun r m1 => ∃ v : Int32, r = some (.int v) ∧ Ct ad μX12_row (d + 300) [.ref (ad 187), .int a] m1 (fun r m3 => ∃ w : Int64, r = some (.long w) ∧ m3.1 187 17 = v ∧ (v = 0 → m3.2.1 217 (0 : Int32).toNatClampNeg = w) ∧ J m3))
/-- both sides are called, no answers are compared -/
def OpW (ad : Nat → Nat) (d : Nat) (μ μ' : MI) (as : List Value) (I J : Wm → Prop) : Prop := ∀ m, I m → Ct ad μ (d + 300) (.ref (ad 0) :: as) m (fun r m1 => (∃ v : Int32, r = some (.int v)) ∧ Ct ad μ' (d + 300) (.ref (ad 187) :: as) m1 (fun r m2 => (∃ w : Int32, r = some (.int w)) ∧ J m2))
def OpOfW (ad : Nat → Nat) (d : Nat) (a b : Int32) (I J : Wm → Prop) : Prop := ∀ m, I m → Ctg ad μL_of hL_of (d + 300) 1 6 [.ref (ad 0), .int a, .int b, .ref (ad 217)] m (fun r m1 => (∃ v : Int32, r = some (.int v)) ∧ Ct ad μX12_of (d + 300) [.ref (ad 187), .int a, .int b] m1 (fun r m3 => (∃ w : Int32, r = some (.int w)) ∧ J m3))
def OpRowW (ad : Nat → Nat) (d : Nat) (a : Int32) (I J : Wm → Prop) : Prop := ∀ m, I m → Ctg ad μL_row hL_row (d + 300) 1 6 [.ref (ad 0), .int a, .ref (ad 217)] m (fun r m1 => (∃ v : Int32, r = some (.int v)) ∧ Ct ad μX12_row (d + 300) [.ref (ad 187), .int a] m1 (fun r m3 => (∃ w : Int64, r = some (.long w)) ∧ J m3))
def O_sign (ad : Nat → Nat) (d : Nat) (I J : Wm → Prop) : Prop := ∀ a : Int32, OpW ad d μX11_sign μX12_sign [.int a] I J
set_option maxHeartbeats 1000000 in
theorem L_sign {ad : Nat → Nat} {sb Ls kc ks d : Nat} {xs : Nat → Int32} {Q : Option Value → Wm → Prop} {m : Wm} {x4 : Int32} {I J : Wm → Prop} (hv1 : vp_in (x4 + (1 : Int32)) Ls) (ho : O_sign ad d I J) (hI : I m) (K : ∀ m', J m' → AWl LAY ad (EX (SX sb Ls xs) kc ks LAY) μL_law (d + 301) Q 23 [(0, .ref sb), (1, .ref (ad 0)), (2, .ref (ad 187)), (3, .ref (ad 217)), (4, .int (x4 + (6 : Int32)))] [] m') : AWl LAY ad (EX (SX sb Ls xs) (kc + 1) (ks + 6) LAY) μL_law (d + 301) Q 232 [(0, .ref sb), (1, .ref (ad 0)), (2, .ref (ad 187)), (3, .ref (ad 217)), (4, .int x4)] [] m := g_L_law_232 ⟨hv1, (ho _ m hI).to (fun r m1 h => by
    obtain ⟨⟨v, rfl⟩, h2⟩ := h
    exact ⟨v, rfl, hv1, h2.to (fun r m3 h => by obtain ⟨⟨w, rfl⟩, hJ⟩ := h; exact ⟨w, rfl, K m3 hJ⟩)⟩)⟩
def O_end (ad : Nat → Nat) (d : Nat) (I J : Wm → Prop) : Prop := ∀ a : Int32, OpW ad d μX11_end μX12_end [.int a] I J
set_option maxHeartbeats 1000000 in
theorem L_end {ad : Nat → Nat} {sb Ls kc ks d : Nat} {xs : Nat → Int32} {Q : Option Value → Wm → Prop} {m : Wm} {x4 : Int32} {I J : Wm → Prop} (hv1 : vp_in (x4 + (1 : Int32)) Ls) (ho : O_end ad d I J) (hI : I m) (K : ∀ m', J m' → AWl LAY ad (EX (SX sb Ls xs) kc ks LAY) μL_law (d + 301) Q 23 [(0, .ref sb), (1, .ref (ad 0)), (2, .ref (ad 187)), (3, .ref (ad 217)), (4, .int (x4 + (6 : Int32)))] [] m') : AWl LAY ad (EX (SX sb Ls xs) (kc + 1) (ks + 6) LAY) μL_law (d + 301) Q 257 [(0, .ref sb), (1, .ref (ad 0)), (2, .ref (ad 187)), (3, .ref (ad 217)), (4, .int x4)] [] m := g_L_law_257 ⟨hv1, (ho _ m hI).to (fun r m1 h => by
    obtain ⟨⟨v, rfl⟩, h2⟩ := h
    exact ⟨v, rfl, hv1, h2.to (fun r m3 h => by obtain ⟨⟨w, rfl⟩, hJ⟩ := h; exact ⟨w, rfl, K m3 hJ⟩)⟩)⟩
def O_league (ad : Nat → Nat) (d : Nat) (I J : Wm → Prop) : Prop := OpW ad d μX11_league μX12_league [] I J
set_option maxHeartbeats 1000000 in
theorem L_league {ad : Nat → Nat} {sb Ls kc ks d : Nat} {xs : Nat → Int32} {Q : Option Value → Wm → Prop} {m : Wm} {x4 : Int32} {I J : Wm → Prop}  (ho : O_league ad d I J) (hI : I m) (K : ∀ m', J m' → AWl LAY ad (EX (SX sb Ls xs) kc ks LAY) μL_law (d + 301) Q 23 [(0, .ref sb), (1, .ref (ad 0)), (2, .ref (ad 187)), (3, .ref (ad 217)), (4, .int (x4 + (6 : Int32)))] [] m') : AWl LAY ad (EX (SX sb Ls xs) (kc + 1) (ks + 6) LAY) μL_law (d + 301) Q 282 [(0, .ref sb), (1, .ref (ad 0)), (2, .ref (ad 187)), (3, .ref (ad 217)), (4, .int x4)] [] m := g_L_law_282 ((ho  m hI).to (fun r m1 h => by
    obtain ⟨⟨v, rfl⟩, h2⟩ := h
    exact ⟨v, rfl, h2.to (fun r m3 h => by obtain ⟨⟨w, rfl⟩, hJ⟩ := h; exact ⟨w, rfl, K m3 hJ⟩)⟩))
def O_rule (ad : Nat → Nat) (d : Nat) (I J : Wm → Prop) : Prop := OpW ad d μX11_rule μX12_rule [] I J
set_option maxHeartbeats 1000000 in
theorem L_rule {ad : Nat → Nat} {sb Ls kc ks d : Nat} {xs : Nat → Int32} {Q : Option Value → Wm → Prop} {m : Wm} {x4 : Int32} {I J : Wm → Prop}  (ho : O_rule ad d I J) (hI : I m) (K : ∀ m', J m' → AWl LAY ad (EX (SX sb Ls xs) kc ks LAY) μL_law (d + 301) Q 23 [(0, .ref sb), (1, .ref (ad 0)), (2, .ref (ad 187)), (3, .ref (ad 217)), (4, .int (x4 + (6 : Int32)))] [] m') : AWl LAY ad (EX (SX sb Ls xs) (kc + 1) (ks + 6) LAY) μL_law (d + 301) Q 295 [(0, .ref sb), (1, .ref (ad 0)), (2, .ref (ad 187)), (3, .ref (ad 217)), (4, .int x4)] [] m := g_L_law_295 ((ho  m hI).to (fun r m1 h => by
    obtain ⟨⟨v, rfl⟩, h2⟩ := h
    exact ⟨v, rfl, h2.to (fun r m3 h => by obtain ⟨⟨w, rfl⟩, hJ⟩ := h; exact ⟨w, rfl, K m3 hJ⟩)⟩))
def O_plan (ad : Nat → Nat) (d : Nat) (I J : Wm → Prop) : Prop := OpW ad d μX11_plan μX12_plan [] I J
set_option maxHeartbeats 1000000 in
theorem L_plan {ad : Nat → Nat} {sb Ls kc ks d : Nat} {xs : Nat → Int32} {Q : Option Value → Wm → Prop} {m : Wm} {x4 : Int32} {I J : Wm → Prop}  (ho : O_plan ad d I J) (hI : I m) (K : ∀ m', J m' → AWl LAY ad (EX (SX sb Ls xs) kc ks LAY) μL_law (d + 301) Q 23 [(0, .ref sb), (1, .ref (ad 0)), (2, .ref (ad 187)), (3, .ref (ad 217)), (4, .int (x4 + (6 : Int32)))] [] m') : AWl LAY ad (EX (SX sb Ls xs) (kc + 1) (ks + 6) LAY) μL_law (d + 301) Q 308 [(0, .ref sb), (1, .ref (ad 0)), (2, .ref (ad 187)), (3, .ref (ad 217)), (4, .int x4)] [] m := g_L_law_308 ((ho  m hI).to (fun r m1 h => by
    obtain ⟨⟨v, rfl⟩, h2⟩ := h
    exact ⟨v, rfl, h2.to (fun r m3 h => by obtain ⟨⟨w, rfl⟩, hJ⟩ := h; exact ⟨w, rfl, K m3 hJ⟩)⟩))
def O_skill (ad : Nat → Nat) (d : Nat) (I J : Wm → Prop) : Prop := ∀ a b : Int32, OpW ad d μX11_skill μX12_skill [.int a, .int b] I J
set_option maxHeartbeats 1000000 in
theorem L_skill {ad : Nat → Nat} {sb Ls kc ks d : Nat} {xs : Nat → Int32} {Q : Option Value → Wm → Prop} {m : Wm} {x4 : Int32} {I J : Wm → Prop} (hv1 : vp_in (x4 + (1 : Int32)) Ls) (hv2 : vp_in (x4 + (2 : Int32)) Ls) (ho : O_skill ad d I J) (hI : I m) (K : ∀ m', J m' → AWl LAY ad (EX (SX sb Ls xs) kc ks LAY) μL_law (d + 301) Q 23 [(0, .ref sb), (1, .ref (ad 0)), (2, .ref (ad 187)), (3, .ref (ad 217)), (4, .int (x4 + (6 : Int32)))] [] m') : AWl LAY ad (EX (SX sb Ls xs) (kc + 1) (ks + 6) LAY) μL_law (d + 301) Q 321 [(0, .ref sb), (1, .ref (ad 0)), (2, .ref (ad 187)), (3, .ref (ad 217)), (4, .int x4)] [] m := g_L_law_321 ⟨hv1, hv2, (ho _ _ m hI).to (fun r m1 h => by
    obtain ⟨⟨v, rfl⟩, h2⟩ := h
    exact ⟨v, rfl, hv1, hv2, h2.to (fun r m3 h => by obtain ⟨⟨w, rfl⟩, hJ⟩ := h; exact ⟨w, rfl, K m3 hJ⟩)⟩)⟩
def O_of (ad : Nat → Nat) (d : Nat) (I J : Wm → Prop) : Prop := ∀ a b : Int32, OpOfW ad d a b I J
set_option maxHeartbeats 1000000 in
theorem L_of {ad : Nat → Nat} {sb Ls kc ks d : Nat} {xs : Nat → Int32} {Q : Option Value → Wm → Prop} {m : Wm} {x4 : Int32} {I J : Wm → Prop} (hv1 : vp_in (x4 + (1 : Int32)) Ls) (hv2 : vp_in (x4 + (2 : Int32)) Ls) (ho : O_of ad d I J) (hI : I m) (K : ∀ m', J m' → AWl LAY ad (EX (SX sb Ls xs) kc ks LAY) μL_law (d + 301) Q 23 [(0, .ref sb), (1, .ref (ad 0)), (2, .ref (ad 187)), (3, .ref (ad 217)), (4, .int (x4 + (6 : Int32)))] [] m') : AWl LAY ad (EX (SX sb Ls xs) (kc + 1) (ks + 6) LAY) μL_law (d + 301) Q 358 [(0, .ref sb), (1, .ref (ad 0)), (2, .ref (ad 187)), (3, .ref (ad 217)), (4, .int x4)] [] m := g_L_law_358 ⟨hv1, hv2, Ctg.mono (ho _ _ m hI) (fun r m1 h => by
    obtain ⟨⟨v, rfl⟩, h2⟩ := h
    refine ⟨v, rfl, hv1, hv2, h2.to (fun r m3 h => ?_)⟩
    obtain ⟨⟨w, rfl⟩, hJ⟩ := h
    exact ⟨w, rfl, K m3 hJ⟩)⟩
def O_law (ad : Nat → Nat) (d : Nat) (I J : Wm → Prop) : Prop := ∀ a b : Int32, OpW ad d μX11_law μX12_law [.int a, .int b] I J
set_option maxHeartbeats 1000000 in
theorem L_law {ad : Nat → Nat} {sb Ls kc ks d : Nat} {xs : Nat → Int32} {Q : Option Value → Wm → Prop} {m : Wm} {x4 : Int32} {I J : Wm → Prop} (hv1 : vp_in (x4 + (1 : Int32)) Ls) (hv2 : vp_in (x4 + (2 : Int32)) Ls) (ho : O_law ad d I J) (hI : I m) (K : ∀ m', J m' → AWl LAY ad (EX (SX sb Ls xs) kc ks LAY) μL_law (d + 301) Q 23 [(0, .ref sb), (1, .ref (ad 0)), (2, .ref (ad 187)), (3, .ref (ad 217)), (4, .int (x4 + (6 : Int32)))] [] m') : AWl LAY ad (EX (SX sb Ls xs) (kc + 1) (ks + 6) LAY) μL_law (d + 301) Q 398 [(0, .ref sb), (1, .ref (ad 0)), (2, .ref (ad 187)), (3, .ref (ad 217)), (4, .int x4)] [] m := g_L_law_398 ⟨hv1, hv2, (ho _ _ m hI).to (fun r m1 h => by
    obtain ⟨⟨v, rfl⟩, h2⟩ := h
    exact ⟨v, rfl, hv1, hv2, h2.to (fun r m3 h => by obtain ⟨⟨w, rfl⟩, hJ⟩ := h; exact ⟨w, rfl, K m3 hJ⟩)⟩)⟩
def O_sheet (ad : Nat → Nat) (d : Nat) (I J : Wm → Prop) : Prop := ∀ a b c e f : Int32, OpW ad d μX11_sheet μX12_sheet [.int a, .int b, .int c, .int e, .int f] I J
set_option maxHeartbeats 1000000 in
theorem L_sheet {ad : Nat → Nat} {sb Ls kc ks d : Nat} {xs : Nat → Int32} {Q : Option Value → Wm → Prop} {m : Wm} {x4 : Int32} {I J : Wm → Prop} (hv1 : vp_in (x4 + (1 : Int32)) Ls) (hv2 : vp_in (x4 + (2 : Int32)) Ls) (hv3 : vp_in (x4 + (3 : Int32)) Ls) (hv4 : vp_in (x4 + (4 : Int32)) Ls) (hv5 : vp_in (x4 + (5 : Int32)) Ls) (ho : O_sheet ad d I J) (hI : I m) (K : ∀ m', J m' → AWl LAY ad (EX (SX sb Ls xs) kc ks LAY) μL_law (d + 301) Q 23 [(0, .ref sb), (1, .ref (ad 0)), (2, .ref (ad 187)), (3, .ref (ad 217)), (4, .int (x4 + (6 : Int32)))] [] m') : AWl LAY ad (EX (SX sb Ls xs) (kc + 1) (ks + 6) LAY) μL_law (d + 301) Q 435 [(0, .ref sb), (1, .ref (ad 0)), (2, .ref (ad 187)), (3, .ref (ad 217)), (4, .int x4)] [] m := g_L_law_435 ⟨hv1, hv2, hv3, hv4, hv5, (ho _ _ _ _ _ m hI).to (fun r m1 h => by
    obtain ⟨⟨v, rfl⟩, h2⟩ := h
    exact ⟨v, rfl, hv1, hv2, hv3, hv4, hv5, h2.to (fun r m3 h => by obtain ⟨⟨w, rfl⟩, hJ⟩ := h; exact ⟨w, rfl, K m3 hJ⟩)⟩)⟩
def O_ill (ad : Nat → Nat) (d : Nat) (I J : Wm → Prop) : Prop := ∀ a b : Int32, b = 0 ∨ b = 1 → OpW ad d μX11_ill μX12_ill [.int a, .int b] I J
set_option maxHeartbeats 1000000 in
theorem L_ill {ad : Nat → Nat} {sb Ls kc ks d : Nat} {xs : Nat → Int32} {Q : Option Value → Wm → Prop} {m : Wm} {x4 : Int32} {I J : Wm → Prop} (hv1 : vp_in (x4 + (1 : Int32)) Ls) (hv2 : vp_in (x4 + (2 : Int32)) Ls) (ho : O_ill ad d I J) (hI : I m) (K : ∀ m', J m' → AWl LAY ad (EX (SX sb Ls xs) kc ks LAY) μL_law (d + 301) Q 23 [(0, .ref sb), (1, .ref (ad 0)), (2, .ref (ad 187)), (3, .ref (ad 217)), (4, .int (x4 + (6 : Int32)))] [] m') : AWl LAY ad (EX (SX sb Ls xs) (kc + 1) (ks + 6) LAY) μL_law (d + 301) Q 508 [(0, .ref sb), (1, .ref (ad 0)), (2, .ref (ad 187)), (3, .ref (ad 217)), (4, .int x4)] [] m := g_L_law_508 ⟨hv1, hv2, fun hz => (ho _ 0 (Or.inl rfl) m hI).to (fun r m1 h => by
    obtain ⟨⟨v, rfl⟩, h2⟩ := h
    exact ⟨v, rfl, hv1, hv2, fun _ => h2.to (fun r m3 h => by obtain ⟨⟨w, rfl⟩, hJ⟩ := h; exact ⟨w, rfl, K m3 hJ⟩), fun hn => absurd hz hn⟩), fun hz => (ho _ 1 (Or.inr rfl) m hI).to (fun r m1 h => by
    obtain ⟨⟨v, rfl⟩, h2⟩ := h
    exact ⟨v, rfl, hv1, hv2, fun hn => absurd hn hz, fun _ => h2.to (fun r m3 h => by obtain ⟨⟨w, rfl⟩, hJ⟩ := h; exact ⟨w, rfl, K m3 hJ⟩)⟩)⟩
def O_swap (ad : Nat → Nat) (d : Nat) (I J : Wm → Prop) : Prop := ∀ a b : Int32, OpW ad d μX11_swap μX12_swap [.int a, .int b] I J
set_option maxHeartbeats 1000000 in
theorem L_swap {ad : Nat → Nat} {sb Ls kc ks d : Nat} {xs : Nat → Int32} {Q : Option Value → Wm → Prop} {m : Wm} {x4 : Int32} {I J : Wm → Prop} (hv1 : vp_in (x4 + (1 : Int32)) Ls) (hv2 : vp_in (x4 + (2 : Int32)) Ls) (ho : O_swap ad d I J) (hI : I m) (K : ∀ m', J m' → AWl LAY ad (EX (SX sb Ls xs) kc ks LAY) μL_law (d + 301) Q 23 [(0, .ref sb), (1, .ref (ad 0)), (2, .ref (ad 187)), (3, .ref (ad 217)), (4, .int (x4 + (6 : Int32)))] [] m') : AWl LAY ad (EX (SX sb Ls xs) (kc + 1) (ks + 6) LAY) μL_law (d + 301) Q 561 [(0, .ref sb), (1, .ref (ad 0)), (2, .ref (ad 187)), (3, .ref (ad 217)), (4, .int x4)] [] m := g_L_law_561 ⟨hv1, hv2, (ho _ _ m hI).to (fun r m1 h => by
    obtain ⟨⟨v, rfl⟩, h2⟩ := h
    exact ⟨v, rfl, hv1, hv2, h2.to (fun r m3 h => by obtain ⟨⟨w, rfl⟩, hJ⟩ := h; exact ⟨w, rfl, K m3 hJ⟩)⟩)⟩
def O_circle (ad : Nat → Nat) (d : Nat) (I J : Wm → Prop) : Prop := OpW ad d μX11_circle μX12_circle [] I J
set_option maxHeartbeats 1000000 in
theorem L_circle {ad : Nat → Nat} {sb Ls kc ks d : Nat} {xs : Nat → Int32} {Q : Option Value → Wm → Prop} {m : Wm} {x4 : Int32} {I J : Wm → Prop}  (ho : O_circle ad d I J) (hI : I m) (K : ∀ m', J m' → AWl LAY ad (EX (SX sb Ls xs) kc ks LAY) μL_law (d + 301) Q 23 [(0, .ref sb), (1, .ref (ad 0)), (2, .ref (ad 187)), (3, .ref (ad 217)), (4, .int (x4 + (6 : Int32)))] [] m') : AWl LAY ad (EX (SX sb Ls xs) (kc + 1) (ks + 6) LAY) μL_law (d + 301) Q 598 [(0, .ref sb), (1, .ref (ad 0)), (2, .ref (ad 187)), (3, .ref (ad 217)), (4, .int x4)] [] m := g_L_law_598 ((ho  m hI).to (fun r m1 h => by
    obtain ⟨⟨v, rfl⟩, h2⟩ := h
    exact ⟨v, rfl, h2.to (fun r m3 h => by obtain ⟨⟨w, rfl⟩, hJ⟩ := h; exact ⟨w, rfl, K m3 hJ⟩)⟩))
def O_game (ad : Nat → Nat) (d : Nat) (I J : Wm → Prop) : Prop := ∀ a b c : Int32, OpW ad d μX11_game μX12_game [.int a, .int b, .int c] I J
set_option maxHeartbeats 1000000 in
theorem L_game {ad : Nat → Nat} {sb Ls kc ks d : Nat} {xs : Nat → Int32} {Q : Option Value → Wm → Prop} {m : Wm} {x4 : Int32} {I J : Wm → Prop} (hv1 : vp_in (x4 + (1 : Int32)) Ls) (hv2 : vp_in (x4 + (2 : Int32)) Ls) (hv3 : vp_in (x4 + (3 : Int32)) Ls) (ho : O_game ad d I J) (hI : I m) (K : ∀ m', J m' → AWl LAY ad (EX (SX sb Ls xs) kc ks LAY) μL_law (d + 301) Q 23 [(0, .ref sb), (1, .ref (ad 0)), (2, .ref (ad 187)), (3, .ref (ad 217)), (4, .int (x4 + (6 : Int32)))] [] m') : AWl LAY ad (EX (SX sb Ls xs) (kc + 1) (ks + 6) LAY) μL_law (d + 301) Q 611 [(0, .ref sb), (1, .ref (ad 0)), (2, .ref (ad 187)), (3, .ref (ad 217)), (4, .int x4)] [] m := g_L_law_611 ⟨hv1, hv2, hv3, (ho _ _ _ m hI).to (fun r m1 h => by
    obtain ⟨⟨v, rfl⟩, h2⟩ := h
    exact ⟨v, rfl, hv1, hv2, hv3, h2.to (fun r m3 h => by obtain ⟨⟨w, rfl⟩, hJ⟩ := h; exact ⟨w, rfl, K m3 hJ⟩)⟩)⟩
def O_odds (ad : Nat → Nat) (d : Nat) (I J : Wm → Prop) : Prop := ∀ a b : Int32, OpW ad d μX11_odds μX12_odds [.int a, .int b] I J
set_option maxHeartbeats 1000000 in
theorem L_odds {ad : Nat → Nat} {sb Ls kc ks d : Nat} {xs : Nat → Int32} {Q : Option Value → Wm → Prop} {m : Wm} {x4 : Int32} {I J : Wm → Prop} (hv1 : vp_in (x4 + (1 : Int32)) Ls) (hv2 : vp_in (x4 + (2 : Int32)) Ls) (ho : O_odds ad d I J) (hI : I m) (K : ∀ m', J m' → AWl LAY ad (EX (SX sb Ls xs) kc ks LAY) μL_law (d + 301) Q 23 [(0, .ref sb), (1, .ref (ad 0)), (2, .ref (ad 187)), (3, .ref (ad 217)), (4, .int (x4 + (6 : Int32)))] [] m') : AWl LAY ad (EX (SX sb Ls xs) (kc + 1) (ks + 6) LAY) μL_law (d + 301) Q 660 [(0, .ref sb), (1, .ref (ad 0)), (2, .ref (ad 187)), (3, .ref (ad 217)), (4, .int x4)] [] m := g_L_law_660 ⟨hv1, hv2, (ho _ _ m hI).to (fun r m1 h => by
    obtain ⟨⟨v, rfl⟩, h2⟩ := h
    exact ⟨v, rfl, hv1, hv2, h2.to (fun r m3 h => by obtain ⟨⟨w, rfl⟩, hJ⟩ := h; exact ⟨w, rfl, K m3 hJ⟩)⟩)⟩
def O_play (ad : Nat → Nat) (d : Nat) (I J : Wm → Prop) : Prop := ∀ a b c : Int32, OpW ad d μX11_play μX12_play [.int a, .int b, .int c] I J
set_option maxHeartbeats 1000000 in
theorem L_play {ad : Nat → Nat} {sb Ls kc ks d : Nat} {xs : Nat → Int32} {Q : Option Value → Wm → Prop} {m : Wm} {x4 : Int32} {I J : Wm → Prop} (hv1 : vp_in (x4 + (1 : Int32)) Ls) (hv2 : vp_in (x4 + (2 : Int32)) Ls) (hv3 : vp_in (x4 + (3 : Int32)) Ls) (ho : O_play ad d I J) (hI : I m) (K : ∀ m', J m' → AWl LAY ad (EX (SX sb Ls xs) kc ks LAY) μL_law (d + 301) Q 23 [(0, .ref sb), (1, .ref (ad 0)), (2, .ref (ad 187)), (3, .ref (ad 217)), (4, .int (x4 + (6 : Int32)))] [] m') : AWl LAY ad (EX (SX sb Ls xs) (kc + 1) (ks + 6) LAY) μL_law (d + 301) Q 697 [(0, .ref sb), (1, .ref (ad 0)), (2, .ref (ad 187)), (3, .ref (ad 217)), (4, .int x4)] [] m := g_L_law_697 ⟨hv1, hv2, hv3, (ho _ _ _ m hI).to (fun r m1 h => by
    obtain ⟨⟨v, rfl⟩, h2⟩ := h
    exact ⟨v, rfl, hv1, hv2, hv3, h2.to (fun r m3 h => by obtain ⟨⟨w, rfl⟩, hJ⟩ := h; exact ⟨w, rfl, K m3 hJ⟩)⟩)⟩
def O_undo (ad : Nat → Nat) (d : Nat) (I J : Wm → Prop) : Prop := OpW ad d μX11_undo μX12_undo [] I J
set_option maxHeartbeats 1000000 in
theorem L_undo {ad : Nat → Nat} {sb Ls kc ks d : Nat} {xs : Nat → Int32} {Q : Option Value → Wm → Prop} {m : Wm} {x4 : Int32} {I J : Wm → Prop}  (ho : O_undo ad d I J) (hI : I m) (K : ∀ m', J m' → AWl LAY ad (EX (SX sb Ls xs) kc ks LAY) μL_law (d + 301) Q 23 [(0, .ref sb), (1, .ref (ad 0)), (2, .ref (ad 187)), (3, .ref (ad 217)), (4, .int (x4 + (6 : Int32)))] [] m') : AWl LAY ad (EX (SX sb Ls xs) (kc + 1) (ks + 6) LAY) μL_law (d + 301) Q 746 [(0, .ref sb), (1, .ref (ad 0)), (2, .ref (ad 187)), (3, .ref (ad 217)), (4, .int x4)] [] m := g_L_law_746 ((ho  m hI).to (fun r m1 h => by
    obtain ⟨⟨v, rfl⟩, h2⟩ := h
    exact ⟨v, rfl, h2.to (fun r m3 h => by obtain ⟨⟨w, rfl⟩, hJ⟩ := h; exact ⟨w, rfl, K m3 hJ⟩)⟩))
def O_judge (ad : Nat → Nat) (d : Nat) (I J : Wm → Prop) : Prop := ∀ a b : Int32, OpW ad d μX11_judge μX12_judge [.int a, .int b] I J
set_option maxHeartbeats 1000000 in
theorem L_judge {ad : Nat → Nat} {sb Ls kc ks d : Nat} {xs : Nat → Int32} {Q : Option Value → Wm → Prop} {m : Wm} {x4 : Int32} {I J : Wm → Prop} (hv1 : vp_in (x4 + (1 : Int32)) Ls) (hv2 : vp_in (x4 + (2 : Int32)) Ls) (ho : O_judge ad d I J) (hI : I m) (K : ∀ m', J m' → AWl LAY ad (EX (SX sb Ls xs) kc ks LAY) μL_law (d + 301) Q 23 [(0, .ref sb), (1, .ref (ad 0)), (2, .ref (ad 187)), (3, .ref (ad 217)), (4, .int (x4 + (6 : Int32)))] [] m') : AWl LAY ad (EX (SX sb Ls xs) (kc + 1) (ks + 6) LAY) μL_law (d + 301) Q 759 [(0, .ref sb), (1, .ref (ad 0)), (2, .ref (ad 187)), (3, .ref (ad 217)), (4, .int x4)] [] m := g_L_law_759 ⟨hv1, hv2, (ho _ _ m hI).to (fun r m1 h => by
    obtain ⟨⟨v, rfl⟩, h2⟩ := h
    exact ⟨v, rfl, hv1, hv2, h2.to (fun r m3 h => by obtain ⟨⟨w, rfl⟩, hJ⟩ := h; exact ⟨w, rfl, K m3 hJ⟩)⟩)⟩
def O_rounds (ad : Nat → Nat) (d : Nat) (I J : Wm → Prop) : Prop := ∀ a : Int32, OpI ad d μX11_rounds μX12_rounds [.int a] I J
set_option maxHeartbeats 1000000 in
theorem L_rounds {ad : Nat → Nat} {sb Ls kc ks d : Nat} {xs : Nat → Int32} {Q : Option Value → Wm → Prop} {m : Wm} {x4 : Int32} {I J : Wm → Prop} (hv1 : vp_in (x4 + (1 : Int32)) Ls) (ho : O_rounds ad d I J) (hI : I m) (K : ∀ m', J m' → AWl LAY ad (EX (SX sb Ls xs) kc ks LAY) μL_law (d + 301) Q 23 [(0, .ref sb), (1, .ref (ad 0)), (2, .ref (ad 187)), (3, .ref (ad 217)), (4, .int (x4 + (6 : Int32)))] [] m') : AWl LAY ad (EX (SX sb Ls xs) (kc + 1) (ks + 6) LAY) μL_law (d + 301) Q 796 [(0, .ref sb), (1, .ref (ad 0)), (2, .ref (ad 187)), (3, .ref (ad 217)), (4, .int x4)] [] m := g_L_law_796 ⟨hv1, (ho _ m hI).to (fun r m1 h => by
    obtain ⟨v, rfl, h2⟩ := h
    exact ⟨v, rfl, hv1, h2.to (fun r m3 h => by obtain ⟨rfl, hJ⟩ := h; exact ⟨v, rfl, fun _ => K m3 hJ, fun h => absurd rfl h⟩)⟩)⟩
def O_beats (ad : Nat → Nat) (d : Nat) (I J : Wm → Prop) : Prop := ∀ a : Int32, OpW ad d μX11_beats μX12_beats [.int a] I J
set_option maxHeartbeats 1000000 in
theorem L_beats {ad : Nat → Nat} {sb Ls kc ks d : Nat} {xs : Nat → Int32} {Q : Option Value → Wm → Prop} {m : Wm} {x4 : Int32} {I J : Wm → Prop} (hv1 : vp_in (x4 + (1 : Int32)) Ls) (ho : O_beats ad d I J) (hI : I m) (K : ∀ m', J m' → AWl LAY ad (EX (SX sb Ls xs) kc ks LAY) μL_law (d + 301) Q 23 [(0, .ref sb), (1, .ref (ad 0)), (2, .ref (ad 187)), (3, .ref (ad 217)), (4, .int (x4 + (6 : Int32)))] [] m') : AWl LAY ad (EX (SX sb Ls xs) (kc + 1) (ks + 6) LAY) μL_law (d + 301) Q 821 [(0, .ref sb), (1, .ref (ad 0)), (2, .ref (ad 187)), (3, .ref (ad 217)), (4, .int x4)] [] m := g_L_law_821 ⟨hv1, (ho _ m hI).to (fun r m1 h => by
    obtain ⟨⟨v, rfl⟩, h2⟩ := h
    exact ⟨v, rfl, hv1, h2.to (fun r m3 h => by obtain ⟨⟨w, rfl⟩, hJ⟩ := h; exact ⟨w, rfl, K m3 hJ⟩)⟩)⟩
def O_kings (ad : Nat → Nat) (d : Nat) (I J : Wm → Prop) : Prop := OpW ad d μX11_kings μX12_kings [] I J
set_option maxHeartbeats 1000000 in
theorem L_kings {ad : Nat → Nat} {sb Ls kc ks d : Nat} {xs : Nat → Int32} {Q : Option Value → Wm → Prop} {m : Wm} {x4 : Int32} {I J : Wm → Prop}  (ho : O_kings ad d I J) (hI : I m) (K : ∀ m', J m' → AWl LAY ad (EX (SX sb Ls xs) kc ks LAY) μL_law (d + 301) Q 23 [(0, .ref sb), (1, .ref (ad 0)), (2, .ref (ad 187)), (3, .ref (ad 217)), (4, .int (x4 + (6 : Int32)))] [] m') : AWl LAY ad (EX (SX sb Ls xs) (kc + 1) (ks + 6) LAY) μL_law (d + 301) Q 846 [(0, .ref sb), (1, .ref (ad 0)), (2, .ref (ad 187)), (3, .ref (ad 217)), (4, .int x4)] [] m := g_L_law_846 ((ho  m hI).to (fun r m1 h => by
    obtain ⟨⟨v, rfl⟩, h2⟩ := h
    exact ⟨v, rfl, h2.to (fun r m3 h => by obtain ⟨⟨w, rfl⟩, hJ⟩ := h; exact ⟨w, rfl, K m3 hJ⟩)⟩))
def O_master (ad : Nat → Nat) (d : Nat) (I J : Wm → Prop) : Prop := ∀ a : Int32, OpW ad d μX11_master μX12_master [.int a] I J
set_option maxHeartbeats 1000000 in
theorem L_master {ad : Nat → Nat} {sb Ls kc ks d : Nat} {xs : Nat → Int32} {Q : Option Value → Wm → Prop} {m : Wm} {x4 : Int32} {I J : Wm → Prop} (hv1 : vp_in (x4 + (1 : Int32)) Ls) (ho : O_master ad d I J) (hI : I m) (K : ∀ m', J m' → AWl LAY ad (EX (SX sb Ls xs) kc ks LAY) μL_law (d + 301) Q 23 [(0, .ref sb), (1, .ref (ad 0)), (2, .ref (ad 187)), (3, .ref (ad 217)), (4, .int (x4 + (6 : Int32)))] [] m') : AWl LAY ad (EX (SX sb Ls xs) (kc + 1) (ks + 6) LAY) μL_law (d + 301) Q 859 [(0, .ref sb), (1, .ref (ad 0)), (2, .ref (ad 187)), (3, .ref (ad 217)), (4, .int x4)] [] m := g_L_law_859 ⟨hv1, (ho _ m hI).to (fun r m1 h => by
    obtain ⟨⟨v, rfl⟩, h2⟩ := h
    exact ⟨v, rfl, hv1, h2.to (fun r m3 h => by obtain ⟨⟨w, rfl⟩, hJ⟩ := h; exact ⟨w, rfl, K m3 hJ⟩)⟩)⟩
def O_table (ad : Nat → Nat) (d : Nat) (I J : Wm → Prop) : Prop := OpW ad d μX11_table μX12_table [] I J
set_option maxHeartbeats 1000000 in
theorem L_table {ad : Nat → Nat} {sb Ls kc ks d : Nat} {xs : Nat → Int32} {Q : Option Value → Wm → Prop} {m : Wm} {x4 : Int32} {I J : Wm → Prop}  (ho : O_table ad d I J) (hI : I m) (K : ∀ m', J m' → AWl LAY ad (EX (SX sb Ls xs) kc ks LAY) μL_law (d + 301) Q 23 [(0, .ref sb), (1, .ref (ad 0)), (2, .ref (ad 187)), (3, .ref (ad 217)), (4, .int (x4 + (6 : Int32)))] [] m') : AWl LAY ad (EX (SX sb Ls xs) (kc + 1) (ks + 6) LAY) μL_law (d + 301) Q 884 [(0, .ref sb), (1, .ref (ad 0)), (2, .ref (ad 187)), (3, .ref (ad 217)), (4, .int x4)] [] m := g_L_law_884 ((ho  m hI).to (fun r m1 h => by
    obtain ⟨⟨v, rfl⟩, h2⟩ := h
    exact ⟨v, rfl, h2.to (fun r m3 h => by obtain ⟨⟨w, rfl⟩, hJ⟩ := h; exact ⟨w, rfl, K m3 hJ⟩)⟩))
def O_spread (ad : Nat → Nat) (d : Nat) (I J : Wm → Prop) : Prop := OpW ad d μX11_spread μX12_spread [] I J
set_option maxHeartbeats 1000000 in
theorem L_spread {ad : Nat → Nat} {sb Ls kc ks d : Nat} {xs : Nat → Int32} {Q : Option Value → Wm → Prop} {m : Wm} {x4 : Int32} {I J : Wm → Prop}  (ho : O_spread ad d I J) (hI : I m) (K : ∀ m', J m' → AWl LAY ad (EX (SX sb Ls xs) kc ks LAY) μL_law (d + 301) Q 23 [(0, .ref sb), (1, .ref (ad 0)), (2, .ref (ad 187)), (3, .ref (ad 217)), (4, .int (x4 + (6 : Int32)))] [] m') : AWl LAY ad (EX (SX sb Ls xs) (kc + 1) (ks + 6) LAY) μL_law (d + 301) Q 897 [(0, .ref sb), (1, .ref (ad 0)), (2, .ref (ad 187)), (3, .ref (ad 217)), (4, .int x4)] [] m := g_L_law_897 ((ho  m hI).to (fun r m1 h => by
    obtain ⟨⟨v, rfl⟩, h2⟩ := h
    exact ⟨v, rfl, h2.to (fun r m3 h => by obtain ⟨⟨w, rfl⟩, hJ⟩ := h; exact ⟨w, rfl, K m3 hJ⟩)⟩))
def O_rest (ad : Nat → Nat) (d : Nat) (I J : Wm → Prop) : Prop := OpW ad d μX11_rest μX12_rest [] I J
set_option maxHeartbeats 1000000 in
theorem L_rest {ad : Nat → Nat} {sb Ls kc ks d : Nat} {xs : Nat → Int32} {Q : Option Value → Wm → Prop} {m : Wm} {x4 : Int32} {I J : Wm → Prop}  (ho : O_rest ad d I J) (hI : I m) (K : ∀ m', J m' → AWl LAY ad (EX (SX sb Ls xs) kc ks LAY) μL_law (d + 301) Q 23 [(0, .ref sb), (1, .ref (ad 0)), (2, .ref (ad 187)), (3, .ref (ad 217)), (4, .int (x4 + (6 : Int32)))] [] m') : AWl LAY ad (EX (SX sb Ls xs) (kc + 1) (ks + 6) LAY) μL_law (d + 301) Q 910 [(0, .ref sb), (1, .ref (ad 0)), (2, .ref (ad 187)), (3, .ref (ad 217)), (4, .int x4)] [] m := g_L_law_910 ((ho  m hI).to (fun r m1 h => by
    obtain ⟨⟨v, rfl⟩, h2⟩ := h
    exact ⟨v, rfl, h2.to (fun r m3 h => by obtain ⟨⟨w, rfl⟩, hJ⟩ := h; exact ⟨w, rfl, K m3 hJ⟩)⟩))
def O_mean (ad : Nat → Nat) (d : Nat) (I J : Wm → Prop) : Prop := ∀ a b : Int32, OpW ad d μX11_mean μX12_mean [.int a, .int b] I J
set_option maxHeartbeats 1000000 in
theorem L_mean {ad : Nat → Nat} {sb Ls kc ks d : Nat} {xs : Nat → Int32} {Q : Option Value → Wm → Prop} {m : Wm} {x4 : Int32} {I J : Wm → Prop} (hv1 : vp_in (x4 + (1 : Int32)) Ls) (hv2 : vp_in (x4 + (2 : Int32)) Ls) (ho : O_mean ad d I J) (hI : I m) (K : ∀ m', J m' → AWl LAY ad (EX (SX sb Ls xs) kc ks LAY) μL_law (d + 301) Q 23 [(0, .ref sb), (1, .ref (ad 0)), (2, .ref (ad 187)), (3, .ref (ad 217)), (4, .int (x4 + (6 : Int32)))] [] m') : AWl LAY ad (EX (SX sb Ls xs) (kc + 1) (ks + 6) LAY) μL_law (d + 301) Q 923 [(0, .ref sb), (1, .ref (ad 0)), (2, .ref (ad 187)), (3, .ref (ad 217)), (4, .int x4)] [] m := g_L_law_923 ⟨hv1, hv2, (ho _ _ m hI).to (fun r m1 h => by
    obtain ⟨⟨v, rfl⟩, h2⟩ := h
    exact ⟨v, rfl, hv1, hv2, h2.to (fun r m3 h => by obtain ⟨⟨w, rfl⟩, hJ⟩ := h; exact ⟨w, rfl, K m3 hJ⟩)⟩)⟩
def O_soon (ad : Nat → Nat) (d : Nat) (I J : Wm → Prop) : Prop := ∀ a b c : Int32, OpW ad d μX11_soon μX12_soon [.int a, .int b, .int c] I J
set_option maxHeartbeats 1000000 in
theorem L_soon {ad : Nat → Nat} {sb Ls kc ks d : Nat} {xs : Nat → Int32} {Q : Option Value → Wm → Prop} {m : Wm} {x4 : Int32} {I J : Wm → Prop} (hv1 : vp_in (x4 + (1 : Int32)) Ls) (hv2 : vp_in (x4 + (2 : Int32)) Ls) (hv3 : vp_in (x4 + (3 : Int32)) Ls) (ho : O_soon ad d I J) (hI : I m) (K : ∀ m', J m' → AWl LAY ad (EX (SX sb Ls xs) kc ks LAY) μL_law (d + 301) Q 23 [(0, .ref sb), (1, .ref (ad 0)), (2, .ref (ad 187)), (3, .ref (ad 217)), (4, .int (x4 + (6 : Int32)))] [] m') : AWl LAY ad (EX (SX sb Ls xs) (kc + 1) (ks + 6) LAY) μL_law (d + 301) Q 960 [(0, .ref sb), (1, .ref (ad 0)), (2, .ref (ad 187)), (3, .ref (ad 217)), (4, .int x4)] [] m := g_L_law_960 ⟨hv1, hv2, hv3, (ho _ _ _ m hI).to (fun r m1 h => by
    obtain ⟨⟨v, rfl⟩, h2⟩ := h
    exact ⟨v, rfl, hv1, hv2, hv3, h2.to (fun r m3 h => by obtain ⟨⟨w, rfl⟩, hJ⟩ := h; exact ⟨w, rfl, K m3 hJ⟩)⟩)⟩
def O_wins (ad : Nat → Nat) (d : Nat) (I J : Wm → Prop) : Prop := ∀ a b c : Int32, OpW ad d μX11_wins μX12_wins [.int a, .int b, .int c] I J
set_option maxHeartbeats 1000000 in
theorem L_wins {ad : Nat → Nat} {sb Ls kc ks d : Nat} {xs : Nat → Int32} {Q : Option Value → Wm → Prop} {m : Wm} {x4 : Int32} {I J : Wm → Prop} (hv1 : vp_in (x4 + (1 : Int32)) Ls) (hv2 : vp_in (x4 + (2 : Int32)) Ls) (hv3 : vp_in (x4 + (3 : Int32)) Ls) (ho : O_wins ad d I J) (hI : I m) (K : ∀ m', J m' → AWl LAY ad (EX (SX sb Ls xs) kc ks LAY) μL_law (d + 301) Q 23 [(0, .ref sb), (1, .ref (ad 0)), (2, .ref (ad 187)), (3, .ref (ad 217)), (4, .int (x4 + (6 : Int32)))] [] m') : AWl LAY ad (EX (SX sb Ls xs) (kc + 1) (ks + 6) LAY) μL_law (d + 301) Q 1009 [(0, .ref sb), (1, .ref (ad 0)), (2, .ref (ad 187)), (3, .ref (ad 217)), (4, .int x4)] [] m := g_L_law_1009 ⟨hv1, hv2, hv3, (ho _ _ _ m hI).to (fun r m1 h => by
    obtain ⟨⟨v, rfl⟩, h2⟩ := h
    exact ⟨v, rfl, hv1, hv2, hv3, h2.to (fun r m3 h => by obtain ⟨⟨w, rfl⟩, hJ⟩ := h; exact ⟨w, rfl, K m3 hJ⟩)⟩)⟩
def O_hopes (ad : Nat → Nat) (d : Nat) (I J : Wm → Prop) : Prop := ∀ a : Int32, OpW ad d μX11_hopes μX12_hopes [.int a] I J
set_option maxHeartbeats 1000000 in
theorem L_hopes {ad : Nat → Nat} {sb Ls kc ks d : Nat} {xs : Nat → Int32} {Q : Option Value → Wm → Prop} {m : Wm} {x4 : Int32} {I J : Wm → Prop} (hv1 : vp_in (x4 + (1 : Int32)) Ls) (ho : O_hopes ad d I J) (hI : I m) (K : ∀ m', J m' → AWl LAY ad (EX (SX sb Ls xs) kc ks LAY) μL_law (d + 301) Q 23 [(0, .ref sb), (1, .ref (ad 0)), (2, .ref (ad 187)), (3, .ref (ad 217)), (4, .int (x4 + (6 : Int32)))] [] m') : AWl LAY ad (EX (SX sb Ls xs) (kc + 1) (ks + 6) LAY) μL_law (d + 301) Q 1058 [(0, .ref sb), (1, .ref (ad 0)), (2, .ref (ad 187)), (3, .ref (ad 217)), (4, .int x4)] [] m := g_L_law_1058 ⟨hv1, (ho _ m hI).to (fun r m1 h => by
    obtain ⟨⟨v, rfl⟩, h2⟩ := h
    exact ⟨v, rfl, hv1, h2.to (fun r m3 h => by obtain ⟨⟨w, rfl⟩, hJ⟩ := h; exact ⟨w, rfl, K m3 hJ⟩)⟩)⟩
def O_top (ad : Nat → Nat) (d : Nat) (I J : Wm → Prop) : Prop := ∀ a b c : Int32, OpW ad d μX11_top μX12_top [.int a, .int b, .int c] I J
set_option maxHeartbeats 1000000 in
theorem L_top {ad : Nat → Nat} {sb Ls kc ks d : Nat} {xs : Nat → Int32} {Q : Option Value → Wm → Prop} {m : Wm} {x4 : Int32} {I J : Wm → Prop} (hv1 : vp_in (x4 + (1 : Int32)) Ls) (hv2 : vp_in (x4 + (2 : Int32)) Ls) (hv3 : vp_in (x4 + (3 : Int32)) Ls) (ho : O_top ad d I J) (hI : I m) (K : ∀ m', J m' → AWl LAY ad (EX (SX sb Ls xs) kc ks LAY) μL_law (d + 301) Q 23 [(0, .ref sb), (1, .ref (ad 0)), (2, .ref (ad 187)), (3, .ref (ad 217)), (4, .int (x4 + (6 : Int32)))] [] m') : AWl LAY ad (EX (SX sb Ls xs) (kc + 1) (ks + 6) LAY) μL_law (d + 301) Q 1083 [(0, .ref sb), (1, .ref (ad 0)), (2, .ref (ad 187)), (3, .ref (ad 217)), (4, .int x4)] [] m := g_L_law_1083 ⟨hv1, hv2, hv3, (ho _ _ _ m hI).to (fun r m1 h => by
    obtain ⟨⟨v, rfl⟩, h2⟩ := h
    exact ⟨v, rfl, hv1, hv2, hv3, h2.to (fun r m3 h => by obtain ⟨⟨w, rfl⟩, hJ⟩ := h; exact ⟨w, rfl, K m3 hJ⟩)⟩)⟩
def O_quick (ad : Nat → Nat) (d : Nat) (I J : Wm → Prop) : Prop := ∀ a : Int32, OpW ad d μX11_quick μX12_quick [.int a] I J
set_option maxHeartbeats 1000000 in
theorem L_quick {ad : Nat → Nat} {sb Ls kc ks d : Nat} {xs : Nat → Int32} {Q : Option Value → Wm → Prop} {m : Wm} {x4 : Int32} {I J : Wm → Prop} (hv1 : vp_in (x4 + (1 : Int32)) Ls) (ho : O_quick ad d I J) (hI : I m) (K : ∀ m', J m' → AWl LAY ad (EX (SX sb Ls xs) kc ks LAY) μL_law (d + 301) Q 23 [(0, .ref sb), (1, .ref (ad 0)), (2, .ref (ad 187)), (3, .ref (ad 217)), (4, .int (x4 + (6 : Int32)))] [] m') : AWl LAY ad (EX (SX sb Ls xs) (kc + 1) (ks + 6) LAY) μL_law (d + 301) Q 1132 [(0, .ref sb), (1, .ref (ad 0)), (2, .ref (ad 187)), (3, .ref (ad 217)), (4, .int x4)] [] m := g_L_law_1132 ⟨hv1, (ho _ m hI).to (fun r m1 h => by
    obtain ⟨⟨v, rfl⟩, h2⟩ := h
    exact ⟨v, rfl, hv1, h2.to (fun r m3 h => by obtain ⟨⟨w, rfl⟩, hJ⟩ := h; exact ⟨w, rfl, K m3 hJ⟩)⟩)⟩
def O_best (ad : Nat → Nat) (d : Nat) (I J : Wm → Prop) : Prop := ∀ a b : Int32, OpW ad d μX11_best μX12_best [.int a, .int b] I J
set_option maxHeartbeats 1000000 in
theorem L_best {ad : Nat → Nat} {sb Ls kc ks d : Nat} {xs : Nat → Int32} {Q : Option Value → Wm → Prop} {m : Wm} {x4 : Int32} {I J : Wm → Prop} (hv1 : vp_in (x4 + (1 : Int32)) Ls) (hv2 : vp_in (x4 + (2 : Int32)) Ls) (ho : O_best ad d I J) (hI : I m) (K : ∀ m', J m' → AWl LAY ad (EX (SX sb Ls xs) kc ks LAY) μL_law (d + 301) Q 23 [(0, .ref sb), (1, .ref (ad 0)), (2, .ref (ad 187)), (3, .ref (ad 217)), (4, .int (x4 + (6 : Int32)))] [] m') : AWl LAY ad (EX (SX sb Ls xs) (kc + 1) (ks + 6) LAY) μL_law (d + 301) Q 1157 [(0, .ref sb), (1, .ref (ad 0)), (2, .ref (ad 187)), (3, .ref (ad 217)), (4, .int x4)] [] m := g_L_law_1157 ⟨hv1, hv2, (ho _ _ m hI).to (fun r m1 h => by
    obtain ⟨⟨v, rfl⟩, h2⟩ := h
    exact ⟨v, rfl, hv1, hv2, h2.to (fun r m3 h => by obtain ⟨⟨w, rfl⟩, hJ⟩ := h; exact ⟨w, rfl, K m3 hJ⟩)⟩)⟩
def O_even (ad : Nat → Nat) (d : Nat) (I J : Wm → Prop) : Prop := ∀ a : Int32, OpW ad d μX11_even μX12_even [.int a] I J
set_option maxHeartbeats 1000000 in
theorem L_even {ad : Nat → Nat} {sb Ls kc ks d : Nat} {xs : Nat → Int32} {Q : Option Value → Wm → Prop} {m : Wm} {x4 : Int32} {I J : Wm → Prop} (hv1 : vp_in (x4 + (1 : Int32)) Ls) (ho : O_even ad d I J) (hI : I m) (K : ∀ m', J m' → AWl LAY ad (EX (SX sb Ls xs) kc ks LAY) μL_law (d + 301) Q 23 [(0, .ref sb), (1, .ref (ad 0)), (2, .ref (ad 187)), (3, .ref (ad 217)), (4, .int (x4 + (6 : Int32)))] [] m') : AWl LAY ad (EX (SX sb Ls xs) (kc + 1) (ks + 6) LAY) μL_law (d + 301) Q 1194 [(0, .ref sb), (1, .ref (ad 0)), (2, .ref (ad 187)), (3, .ref (ad 217)), (4, .int x4)] [] m := g_L_law_1194 ⟨hv1, (ho _ m hI).to (fun r m1 h => by
    obtain ⟨⟨v, rfl⟩, h2⟩ := h
    exact ⟨v, rfl, hv1, h2.to (fun r m3 h => by obtain ⟨⟨w, rfl⟩, hJ⟩ := h; exact ⟨w, rfl, K m3 hJ⟩)⟩)⟩
def O_all (ad : Nat → Nat) (d : Nat) (I J : Wm → Prop) : Prop := OpW ad d μX11_all μX12_all [] I J
set_option maxHeartbeats 1000000 in
theorem L_all {ad : Nat → Nat} {sb Ls kc ks d : Nat} {xs : Nat → Int32} {Q : Option Value → Wm → Prop} {m : Wm} {x4 : Int32} {I J : Wm → Prop}  (ho : O_all ad d I J) (hI : I m) (K : ∀ m', J m' → AWl LAY ad (EX (SX sb Ls xs) kc ks LAY) μL_law (d + 301) Q 23 [(0, .ref sb), (1, .ref (ad 0)), (2, .ref (ad 187)), (3, .ref (ad 217)), (4, .int (x4 + (6 : Int32)))] [] m') : AWl LAY ad (EX (SX sb Ls xs) (kc + 1) (ks + 6) LAY) μL_law (d + 301) Q 1219 [(0, .ref sb), (1, .ref (ad 0)), (2, .ref (ad 187)), (3, .ref (ad 217)), (4, .int x4)] [] m := g_L_law_1219 ((ho  m hI).to (fun r m1 h => by
    obtain ⟨⟨v, rfl⟩, h2⟩ := h
    exact ⟨v, rfl, h2.to (fun r m3 h => by obtain ⟨⟨w, rfl⟩, hJ⟩ := h; exact ⟨w, rfl, K m3 hJ⟩)⟩))
def O_next (ad : Nat → Nat) (d : Nat) (I J : Wm → Prop) : Prop := ∀ a : Int32, OpW ad d μX11_next μX12_next [.int a] I J
set_option maxHeartbeats 1000000 in
theorem L_next {ad : Nat → Nat} {sb Ls kc ks d : Nat} {xs : Nat → Int32} {Q : Option Value → Wm → Prop} {m : Wm} {x4 : Int32} {I J : Wm → Prop} (hv1 : vp_in (x4 + (1 : Int32)) Ls) (ho : O_next ad d I J) (hI : I m) (K : ∀ m', J m' → AWl LAY ad (EX (SX sb Ls xs) kc ks LAY) μL_law (d + 301) Q 23 [(0, .ref sb), (1, .ref (ad 0)), (2, .ref (ad 187)), (3, .ref (ad 217)), (4, .int (x4 + (6 : Int32)))] [] m') : AWl LAY ad (EX (SX sb Ls xs) (kc + 1) (ks + 6) LAY) μL_law (d + 301) Q 1232 [(0, .ref sb), (1, .ref (ad 0)), (2, .ref (ad 187)), (3, .ref (ad 217)), (4, .int x4)] [] m := g_L_law_1232 ⟨hv1, (ho _ m hI).to (fun r m1 h => by
    obtain ⟨⟨v, rfl⟩, h2⟩ := h
    exact ⟨v, rfl, hv1, h2.to (fun r m3 h => by obtain ⟨⟨w, rfl⟩, hJ⟩ := h; exact ⟨w, rfl, K m3 hJ⟩)⟩)⟩
def O_seen (ad : Nat → Nat) (d : Nat) (I J : Wm → Prop) : Prop := ∀ a b c : Int32, OpW ad d μX11_seen μX12_seen [.int a, .int b, .int c] I J
set_option maxHeartbeats 1000000 in
theorem L_seen {ad : Nat → Nat} {sb Ls kc ks d : Nat} {xs : Nat → Int32} {Q : Option Value → Wm → Prop} {m : Wm} {x4 : Int32} {I J : Wm → Prop} (hv1 : vp_in (x4 + (1 : Int32)) Ls) (hv2 : vp_in (x4 + (2 : Int32)) Ls) (hv3 : vp_in (x4 + (3 : Int32)) Ls) (ho : O_seen ad d I J) (hI : I m) (K : ∀ m', J m' → AWl LAY ad (EX (SX sb Ls xs) kc ks LAY) μL_law (d + 301) Q 23 [(0, .ref sb), (1, .ref (ad 0)), (2, .ref (ad 187)), (3, .ref (ad 217)), (4, .int (x4 + (6 : Int32)))] [] m') : AWl LAY ad (EX (SX sb Ls xs) (kc + 1) (ks + 6) LAY) μL_law (d + 301) Q 1257 [(0, .ref sb), (1, .ref (ad 0)), (2, .ref (ad 187)), (3, .ref (ad 217)), (4, .int x4)] [] m := g_L_law_1257 ⟨hv1, hv2, hv3, (ho _ _ _ m hI).to (fun r m1 h => by
    obtain ⟨⟨v, rfl⟩, h2⟩ := h
    exact ⟨v, rfl, hv1, hv2, hv3, h2.to (fun r m3 h => by obtain ⟨⟨w, rfl⟩, hJ⟩ := h; exact ⟨w, rfl, K m3 hJ⟩)⟩)⟩
def O_found (ad : Nat → Nat) (d : Nat) (I J : Wm → Prop) : Prop := OpW ad d μX11_found μX12_found [] I J
set_option maxHeartbeats 1000000 in
theorem L_found {ad : Nat → Nat} {sb Ls kc ks d : Nat} {xs : Nat → Int32} {Q : Option Value → Wm → Prop} {m : Wm} {x4 : Int32} {I J : Wm → Prop}  (ho : O_found ad d I J) (hI : I m) (K : ∀ m', J m' → AWl LAY ad (EX (SX sb Ls xs) kc ks LAY) μL_law (d + 301) Q 23 [(0, .ref sb), (1, .ref (ad 0)), (2, .ref (ad 187)), (3, .ref (ad 217)), (4, .int (x4 + (6 : Int32)))] [] m') : AWl LAY ad (EX (SX sb Ls xs) (kc + 1) (ks + 6) LAY) μL_law (d + 301) Q 1306 [(0, .ref sb), (1, .ref (ad 0)), (2, .ref (ad 187)), (3, .ref (ad 217)), (4, .int x4)] [] m := g_L_law_1306 ((ho  m hI).to (fun r m1 h => by
    obtain ⟨⟨v, rfl⟩, h2⟩ := h
    exact ⟨v, rfl, h2.to (fun r m3 h => by obtain ⟨⟨w, rfl⟩, hJ⟩ := h; exact ⟨w, rfl, K m3 hJ⟩)⟩))
def O_prize (ad : Nat → Nat) (d : Nat) (I J : Wm → Prop) : Prop := OpW ad d μX11_prize μX12_prize [] I J
set_option maxHeartbeats 1000000 in
theorem L_prize {ad : Nat → Nat} {sb Ls kc ks d : Nat} {xs : Nat → Int32} {Q : Option Value → Wm → Prop} {m : Wm} {x4 : Int32} {I J : Wm → Prop}  (ho : O_prize ad d I J) (hI : I m) (K : ∀ m', J m' → AWl LAY ad (EX (SX sb Ls xs) kc ks LAY) μL_law (d + 301) Q 23 [(0, .ref sb), (1, .ref (ad 0)), (2, .ref (ad 187)), (3, .ref (ad 217)), (4, .int (x4 + (6 : Int32)))] [] m') : AWl LAY ad (EX (SX sb Ls xs) (kc + 1) (ks + 6) LAY) μL_law (d + 301) Q 1319 [(0, .ref sb), (1, .ref (ad 0)), (2, .ref (ad 187)), (3, .ref (ad 217)), (4, .int x4)] [] m := g_L_law_1319 ((ho  m hI).to (fun r m1 h => by
    obtain ⟨⟨v, rfl⟩, h2⟩ := h
    exact ⟨v, rfl, h2.to (fun r m3 h => by obtain ⟨⟨w, rfl⟩, hJ⟩ := h; exact ⟨w, rfl, K m3 hJ⟩)⟩))
def O_pays (ad : Nat → Nat) (d : Nat) (I J : Wm → Prop) : Prop := ∀ a b : Int32, OpW ad d μX11_pays μX12_pays [.int a, .int b] I J
set_option maxHeartbeats 1000000 in
theorem L_pays {ad : Nat → Nat} {sb Ls kc ks d : Nat} {xs : Nat → Int32} {Q : Option Value → Wm → Prop} {m : Wm} {x4 : Int32} {I J : Wm → Prop} (hv1 : vp_in (x4 + (1 : Int32)) Ls) (hv2 : vp_in (x4 + (2 : Int32)) Ls) (ho : O_pays ad d I J) (hI : I m) (K : ∀ m', J m' → AWl LAY ad (EX (SX sb Ls xs) kc ks LAY) μL_law (d + 301) Q 23 [(0, .ref sb), (1, .ref (ad 0)), (2, .ref (ad 187)), (3, .ref (ad 217)), (4, .int (x4 + (6 : Int32)))] [] m') : AWl LAY ad (EX (SX sb Ls xs) (kc + 1) (ks + 6) LAY) μL_law (d + 301) Q 1332 [(0, .ref sb), (1, .ref (ad 0)), (2, .ref (ad 187)), (3, .ref (ad 217)), (4, .int x4)] [] m := g_L_law_1332 ⟨hv1, hv2, (ho _ _ m hI).to (fun r m1 h => by
    obtain ⟨⟨v, rfl⟩, h2⟩ := h
    exact ⟨v, rfl, hv1, hv2, h2.to (fun r m3 h => by obtain ⟨⟨w, rfl⟩, hJ⟩ := h; exact ⟨w, rfl, K m3 hJ⟩)⟩)⟩
def O_laws (ad : Nat → Nat) (d : Nat) (I J : Wm → Prop) : Prop := ∀ a : Int32, OpW ad d μX11_laws μX12_laws [.int a] I J
set_option maxHeartbeats 1000000 in
theorem L_laws {ad : Nat → Nat} {sb Ls kc ks d : Nat} {xs : Nat → Int32} {Q : Option Value → Wm → Prop} {m : Wm} {x4 : Int32} {I J : Wm → Prop} (hv1 : vp_in (x4 + (1 : Int32)) Ls) (ho : O_laws ad d I J) (hI : I m) (K : ∀ m', J m' → AWl LAY ad (EX (SX sb Ls xs) kc ks LAY) μL_law (d + 301) Q 23 [(0, .ref sb), (1, .ref (ad 0)), (2, .ref (ad 187)), (3, .ref (ad 217)), (4, .int (x4 + (6 : Int32)))] [] m') : AWl LAY ad (EX (SX sb Ls xs) (kc + 1) (ks + 6) LAY) μL_law (d + 301) Q 1369 [(0, .ref sb), (1, .ref (ad 0)), (2, .ref (ad 187)), (3, .ref (ad 217)), (4, .int x4)] [] m := g_L_law_1369 ⟨hv1, (ho _ m hI).to (fun r m1 h => by
    obtain ⟨⟨v, rfl⟩, h2⟩ := h
    exact ⟨v, rfl, hv1, h2.to (fun r m3 h => by obtain ⟨⟨w, rfl⟩, hJ⟩ := h; exact ⟨w, rfl, K m3 hJ⟩)⟩)⟩
def O_seed (ad : Nat → Nat) (d : Nat) (I J : Wm → Prop) : Prop := ∀ a : Int32, OpW ad d μX11_seed μX12_seed [.int a] I J
set_option maxHeartbeats 1000000 in
theorem L_seed {ad : Nat → Nat} {sb Ls kc ks d : Nat} {xs : Nat → Int32} {Q : Option Value → Wm → Prop} {m : Wm} {x4 : Int32} {I J : Wm → Prop} (hv1 : vp_in (x4 + (1 : Int32)) Ls) (ho : O_seed ad d I J) (hI : I m) (K : ∀ m', J m' → AWl LAY ad (EX (SX sb Ls xs) kc ks LAY) μL_law (d + 301) Q 23 [(0, .ref sb), (1, .ref (ad 0)), (2, .ref (ad 187)), (3, .ref (ad 217)), (4, .int (x4 + (6 : Int32)))] [] m') : AWl LAY ad (EX (SX sb Ls xs) (kc + 1) (ks + 6) LAY) μL_law (d + 301) Q 1394 [(0, .ref sb), (1, .ref (ad 0)), (2, .ref (ad 187)), (3, .ref (ad 217)), (4, .int x4)] [] m := g_L_law_1394 ⟨hv1, (ho _ m hI).to (fun r m1 h => by
    obtain ⟨⟨v, rfl⟩, h2⟩ := h
    exact ⟨v, rfl, hv1, h2.to (fun r m3 h => by obtain ⟨⟨w, rfl⟩, hJ⟩ := h; exact ⟨w, rfl, K m3 hJ⟩)⟩)⟩
def O_keep (ad : Nat → Nat) (d : Nat) (I J : Wm → Prop) : Prop := ∀ a : Int32, OpW ad d μX11_keep μX12_keep [.int a] I J
set_option maxHeartbeats 1000000 in
theorem L_keep {ad : Nat → Nat} {sb Ls kc ks d : Nat} {xs : Nat → Int32} {Q : Option Value → Wm → Prop} {m : Wm} {x4 : Int32} {I J : Wm → Prop} (hv1 : vp_in (x4 + (1 : Int32)) Ls) (ho : O_keep ad d I J) (hI : I m) (K : ∀ m', J m' → AWl LAY ad (EX (SX sb Ls xs) kc ks LAY) μL_law (d + 301) Q 23 [(0, .ref sb), (1, .ref (ad 0)), (2, .ref (ad 187)), (3, .ref (ad 217)), (4, .int (x4 + (6 : Int32)))] [] m') : AWl LAY ad (EX (SX sb Ls xs) (kc + 1) (ks + 6) LAY) μL_law (d + 301) Q 1419 [(0, .ref sb), (1, .ref (ad 0)), (2, .ref (ad 187)), (3, .ref (ad 217)), (4, .int x4)] [] m := g_L_law_1419 ⟨hv1, (ho _ m hI).to (fun r m1 h => by
    obtain ⟨⟨v, rfl⟩, h2⟩ := h
    exact ⟨v, rfl, hv1, h2.to (fun r m3 h => by obtain ⟨⟨w, rfl⟩, hJ⟩ := h; exact ⟨w, rfl, K m3 hJ⟩)⟩)⟩
def O_again (ad : Nat → Nat) (d : Nat) (I J : Wm → Prop) : Prop := ∀ a : Int32, OpW ad d μX11_again μX12_again [.int a] I J
set_option maxHeartbeats 1000000 in
theorem L_again {ad : Nat → Nat} {sb Ls kc ks d : Nat} {xs : Nat → Int32} {Q : Option Value → Wm → Prop} {m : Wm} {x4 : Int32} {I J : Wm → Prop} (hv1 : vp_in (x4 + (1 : Int32)) Ls) (ho : O_again ad d I J) (hI : I m) (K : ∀ m', J m' → AWl LAY ad (EX (SX sb Ls xs) kc ks LAY) μL_law (d + 301) Q 23 [(0, .ref sb), (1, .ref (ad 0)), (2, .ref (ad 187)), (3, .ref (ad 217)), (4, .int (x4 + (6 : Int32)))] [] m') : AWl LAY ad (EX (SX sb Ls xs) (kc + 1) (ks + 6) LAY) μL_law (d + 301) Q 1444 [(0, .ref sb), (1, .ref (ad 0)), (2, .ref (ad 187)), (3, .ref (ad 217)), (4, .int x4)] [] m := g_L_law_1444 ⟨hv1, (ho _ m hI).to (fun r m1 h => by
    obtain ⟨⟨v, rfl⟩, h2⟩ := h
    exact ⟨v, rfl, hv1, h2.to (fun r m3 h => by obtain ⟨⟨w, rfl⟩, hJ⟩ := h; exact ⟨w, rfl, K m3 hJ⟩)⟩)⟩
def O_count (ad : Nat → Nat) (d : Nat) (I J : Wm → Prop) : Prop := ∀ a : Int32, OpW ad d μX11_count μX12_count [.int a] I J
set_option maxHeartbeats 1000000 in
theorem L_count {ad : Nat → Nat} {sb Ls kc ks d : Nat} {xs : Nat → Int32} {Q : Option Value → Wm → Prop} {m : Wm} {x4 : Int32} {I J : Wm → Prop} (hv1 : vp_in (x4 + (1 : Int32)) Ls) (ho : O_count ad d I J) (hI : I m) (K : ∀ m', J m' → AWl LAY ad (EX (SX sb Ls xs) kc ks LAY) μL_law (d + 301) Q 23 [(0, .ref sb), (1, .ref (ad 0)), (2, .ref (ad 187)), (3, .ref (ad 217)), (4, .int (x4 + (6 : Int32)))] [] m') : AWl LAY ad (EX (SX sb Ls xs) (kc + 1) (ks + 6) LAY) μL_law (d + 301) Q 1469 [(0, .ref sb), (1, .ref (ad 0)), (2, .ref (ad 187)), (3, .ref (ad 217)), (4, .int x4)] [] m := g_L_law_1469 ⟨hv1, (ho _ m hI).to (fun r m1 h => by
    obtain ⟨⟨v, rfl⟩, h2⟩ := h
    exact ⟨v, rfl, hv1, h2.to (fun r m3 h => by obtain ⟨⟨w, rfl⟩, hJ⟩ := h; exact ⟨w, rfl, K m3 hJ⟩)⟩)⟩
def O_row (ad : Nat → Nat) (d : Nat) (I J : Wm → Prop) : Prop := ∀ a : Int32, OpRowW ad d a I J
set_option maxHeartbeats 1000000 in
theorem L_row {ad : Nat → Nat} {sb Ls kc ks d : Nat} {xs : Nat → Int32} {Q : Option Value → Wm → Prop} {m : Wm} {x4 : Int32} {I J : Wm → Prop} (hv1 : vp_in (x4 + (1 : Int32)) Ls) (ho : O_row ad d I J) (hI : I m) (K : ∀ m', J m' → AWl LAY ad (EX (SX sb Ls xs) kc ks LAY) μL_law (d + 301) Q 23 [(0, .ref sb), (1, .ref (ad 0)), (2, .ref (ad 187)), (3, .ref (ad 217)), (4, .int (x4 + (6 : Int32)))] [] m') : AWl LAY ad (EX (SX sb Ls xs) (kc + 1) (ks + 6) LAY) μL_law (d + 301) Q 1494 [(0, .ref sb), (1, .ref (ad 0)), (2, .ref (ad 187)), (3, .ref (ad 217)), (4, .int x4)] [] m := g_L_law_1494 ⟨hv1, Ctg.mono (ho _ m hI) (fun r m1 h => by
    obtain ⟨⟨v, rfl⟩, h2⟩ := h
    refine ⟨v, rfl, hv1, h2.to (fun r m3 h => ?_)⟩
    obtain ⟨⟨w, rfl⟩, hJ⟩ := h
    exact ⟨w, rfl, K m3 hJ⟩)⟩
def OPS (ad : Nat → Nat) (d : Nat) (I J : Wm → Prop) : Prop := O_sign ad d I J ∧ O_end ad d I J ∧ O_league ad d I J ∧ O_rule ad d I J ∧ O_plan ad d I J ∧ O_skill ad d I J ∧ O_of ad d I J ∧ O_law ad d I J ∧ O_sheet ad d I J ∧ O_ill ad d I J ∧ O_swap ad d I J ∧ O_circle ad d I J ∧ O_game ad d I J ∧ O_odds ad d I J ∧ O_play ad d I J ∧ O_undo ad d I J ∧ O_judge ad d I J ∧ O_rounds ad d I J ∧ O_beats ad d I J ∧ O_kings ad d I J ∧ O_master ad d I J ∧ O_table ad d I J ∧ O_spread ad d I J ∧ O_rest ad d I J ∧ O_mean ad d I J ∧ O_soon ad d I J ∧ O_wins ad d I J ∧ O_hopes ad d I J ∧ O_top ad d I J ∧ O_quick ad d I J ∧ O_best ad d I J ∧ O_even ad d I J ∧ O_all ad d I J ∧ O_next ad d I J ∧ O_seen ad d I J ∧ O_found ad d I J ∧ O_prize ad d I J ∧ O_pays ad d I J ∧ O_laws ad d I J ∧ O_seed ad d I J ∧ O_keep ad d I J ∧ O_again ad d I J ∧ O_count ad d I J ∧ O_row ad d I J ∧ ∀ m, I m → J m
set_option maxRecDepth 100000 in
set_option maxHeartbeats 4000000 in
theorem law_step {ad : Nat → Nat} {sb Ls kc ks d : Nat} {xs : Nat → Int32} {Q : Option Value → Wm → Prop} {m : Wm} {x4 : Int32} {I J : Wm → Prop} (hn : ¬ (Int32.ofNat Ls) - (6 : Int32) < x4) (hv0 : vp_in x4 Ls) (hv1 : vp_in (x4 + (1 : Int32)) Ls) (hv2 : vp_in (x4 + (2 : Int32)) Ls) (hv3 : vp_in (x4 + (3 : Int32)) Ls) (hv4 : vp_in (x4 + (4 : Int32)) Ls) (hv5 : vp_in (x4 + (5 : Int32)) Ls) (hO : OPS ad d I J) (hI : I m) (K : ∀ m', J m' → AWl LAY ad (EX (SX sb Ls xs) kc ks LAY) μL_law (d + 301) Q 23 [(0, .ref sb), (1, .ref (ad 0)), (2, .ref (ad 187)), (3, .ref (ad 217)), (4, .int (x4 + (6 : Int32)))] [] m') : AWl LAY ad (EX (SX sb Ls xs) (kc + 1) (ks + 6) LAY) μL_law (d + 301) Q 23 [(0, .ref sb), (1, .ref (ad 0)), (2, .ref (ad 187)), (3, .ref (ad 217)), (4, .int x4)] [] m := by
  obtain ⟨h_sign, h_end, h_league, h_rule, h_plan, h_skill, h_of, h_law, h_sheet, h_ill, h_swap, h_circle, h_game, h_odds, h_play, h_undo, h_judge, h_rounds, h_beats, h_kings, h_master, h_table, h_spread, h_rest, h_mean, h_soon, h_wins, h_hopes, h_top, h_quick, h_best, h_even, h_all, h_next, h_seen, h_found, h_prize, h_pays, h_laws, h_seed, h_keep, h_again, h_count, h_row, hdef⟩ := hO
  exact g_L_law_23 ⟨fun h => absurd h hn, fun _ => ⟨hv0, fun _ => L_sign hv1 h_sign hI K, fun _ => L_end hv1 h_end hI K, fun _ => L_league h_league hI K, fun _ => L_rule h_rule hI K, fun _ => L_plan h_plan hI K, fun _ => L_skill hv1 hv2 h_skill hI K, fun _ => L_of hv1 hv2 h_of hI K, fun _ => L_law hv1 hv2 h_law hI K, fun _ => L_sheet hv1 hv2 hv3 hv4 hv5 h_sheet hI K, fun _ => L_ill hv1 hv2 h_ill hI K, fun _ => L_swap hv1 hv2 h_swap hI K, fun _ => L_circle h_circle hI K, fun _ => L_game hv1 hv2 hv3 h_game hI K, fun _ => L_odds hv1 hv2 h_odds hI K, fun _ => L_play hv1 hv2 hv3 h_play hI K, fun _ => L_undo h_undo hI K, fun _ => L_judge hv1 hv2 h_judge hI K, fun _ => L_rounds hv1 h_rounds hI K, fun _ => L_beats hv1 h_beats hI K, fun _ => L_kings h_kings hI K, fun _ => L_master hv1 h_master hI K, fun _ => L_table h_table hI K, fun _ => L_spread h_spread hI K, fun _ => L_rest h_rest hI K, fun _ => L_mean hv1 hv2 h_mean hI K, fun _ => L_soon hv1 hv2 hv3 h_soon hI K, fun _ => L_wins hv1 hv2 hv3 h_wins hI K, fun _ => L_hopes hv1 h_hopes hI K, fun _ => L_top hv1 hv2 hv3 h_top hI K, fun _ => L_quick hv1 h_quick hI K, fun _ => L_best hv1 hv2 h_best hI K, fun _ => L_even hv1 h_even hI K, fun _ => L_all h_all hI K, fun _ => L_next hv1 h_next hI K, fun _ => L_seen hv1 hv2 hv3 h_seen hI K, fun _ => L_found h_found hI K, fun _ => L_prize h_prize hI K, fun _ => L_pays hv1 hv2 h_pays hI K, fun _ => L_laws hv1 h_laws hI K, fun _ => L_seed hv1 h_seed hI K, fun _ => L_keep hv1 h_keep hI K, fun _ => L_again hv1 h_again hI K, fun _ => L_count hv1 h_count hI K, fun _ => L_row hv1 h_row hI K, fun _ _ _ _ _ _ _ _ _ _ _ _ _ _ _ _ _ _ _ _ _ _ _ _ _ _ _ _ _ _ _ _ _ _ _ _ _ _ _ _ _ _ _ _ => K m (hdef m hI)⟩⟩
theorem i32_sub6 {L : Nat} (h : L ≤ 3072) : ((Int32.ofNat L) - (6 : Int32)).toInt = (L : Int) - 6 := by
  rcases Nat.lt_or_ge L 6 with h6 | h6
  · have : L = 0 ∨ L = 1 ∨ L = 2 ∨ L = 3 ∨ L = 4 ∨ L = 5 := by omega
    rcases this with rfl | rfl | rfl | rfl | rfl | rfl <;> decide
  · obtain ⟨k, rfl⟩ : ∃ k, L = k + 6 := ⟨L - 6, by omega⟩
    have e : Int32.ofNat (k + 6) - (6 : Int32) = nI k := by
      have : Int32.ofNat (k + 6) = nI k + nI 6 := (nI_add k 6).symm
      rw [this]
      show nI k + nI 6 - nI 6 = nI k
      exact Int32.add_sub_cancel _ _
    rw [e, nI_toInt (by omega)]
    omega
theorem law_loop {ad : Nat → Nat} {sb Ls d n0 : Nat} {xs : Nat → Int32} {Inv : Nat → Wm → Prop} (hL : Ls ≤ 3072) (h0 : Ls / 6 = n0) (hop : ∀ k, k < n0 → OPS ad d (Inv k) (Inv (k + 1))) : ∀ (n k : Nat) (m : Wm), k + n = n0 → Inv k m → AWl LAY ad (EX (SX sb Ls xs) (n + 1) (6 * n + 6) LAY) μL_law (d + 301) (fun v _ => v = some (.int 1)) 23 [(0, .ref sb), (1, .ref (ad 0)), (2, .ref (ad 187)), (3, .ref (ad 217)), (4, .int (nI (6 * k)))] [] m := by
  intro n
  have six : (6 : Int32) = nI 6 := rfl
  induction n with
  | zero =>
    intro k m hk hI
    refine g_L_law_23 ⟨fun _ => rfl, fun h => absurd ?_ h⟩
    rw [fa_lt, i32_sub6 hL, nI_toInt (by omega)]
    omega
  | succ n ih =>
    intro k m hk hI
    have hv : ∀ j, j < 6 → vp_in (nI (6 * k) + nI j) Ls := fun j hj => by
      rw [nI_add]
      exact vp_in_nI (by omega) (by omega)
    refine law_step (J := Inv (k + 1)) ?_ (by have := hv 0 (by omega); rwa [nI_add] at this) (hv 1 (by omega)) (hv 2 (by omega)) (hv 3 (by omega)) (hv 4 (by omega)) (hv 5 (by omega)) (hop k (by omega)) hI (fun m' hJ => ?_)
    · rw [fa_lt, i32_sub6 hL, nI_toInt (by omega)]
      omega
    · have e : nI (6 * k) + (6 : Int32) = nI (6 * (k + 1)) := by rw [six, nI_add]; rfl
      rw [e]
      exact ih (k + 1) m' (by omega) hJ
end
section
/-! THE 44 CALLS OF THIS LAW -/
section OPW
variable {ad : Nat → Nat} {d kq : Nat}
theorem o_sign : O_sign ad d (InvK (KX KG kq)) (InvK (KX KG (kq + 1))) := fun a => (os_sign (KX.kd kq KG.kd) a).w
theorem o_end : O_end ad d (InvK (KX KG kq)) (InvK (KX KG (kq + 1))) := fun a => (os_end (KX.kd kq KG.kd) a).w
theorem o_league (hc : kq < 1000) : O_league ad d (InvK (KX KG kq)) (InvK (KX KG (kq + 1))) := (og_league kq hc).w
theorem o_rule : O_rule ad d (InvK (KX KG kq)) (InvK (KX KG (kq + 1))) := (os_rule (KG.rr kq) (KG.rl kq)).w
theorem o_plan : O_plan ad d (InvK (KX KG kq)) (InvK (KX KG (kq + 1))) := (ob_plan (KG.trn rfl rfl) kq).w
theorem o_skill : O_skill ad d (InvK (KX KG kq)) (InvK (KX KG (kq + 1))) := fun a b => (og_skill kq a b).w
theorem o_law : O_law ad d (InvK (KX KG kq)) (InvK (KX KG (kq + 1))) := fun a b => (og_law kq a b).w
theorem o_sheet : O_sheet ad d (InvK (KX KG kq)) (InvK (KX KG (kq + 1))) := fun a b c e f => (og_sheet kq a b c e f).w
theorem o_ill : O_ill ad d (InvK (KX KG kq)) (InvK (KX KG (kq + 1))) := fun a b hb => (og_ill kq a b hb).w
theorem o_swap : O_swap ad d (InvK (KX KG kq)) (InvK (KX KG (kq + 1))) := fun a b => (og_swap kq a b).w
theorem o_circle : O_circle ad d (InvK (KX KG kq)) (InvK (KX KG (kq + 1))) := (ob_circle (KG.trn rfl rfl) kq).w
theorem o_game : O_game ad d (InvK (KX KG kq)) (InvK (KX KG (kq + 1))) := fun a b c => (og_game kq a b c).w
theorem o_odds : O_odds ad d (InvK (KX KG kq)) (InvK (KX KG (kq + 1))) := fun a b => (og_odds kq a b).w
theorem o_play : O_play ad d (InvK (KX KG kq)) (InvK (KX KG (kq + 1))) := fun a b c => (og_play kq a b c).w
theorem o_undo : O_undo ad d (InvK (KX KG kq)) (InvK (KX KG (kq + 1))) := (og_undo kq).w
theorem o_judge : O_judge ad d (InvK (KX KG kq)) (InvK (KX KG (kq + 1))) := fun a b => (og_judge kq a b).w
theorem o_rounds : O_rounds ad d (InvK (KX KG kq)) (InvK (KX KG (kq + 1))) := fun a => og_rounds kq a
theorem o_beats : O_beats ad d (InvK (KX KG kq)) (InvK (KX KG (kq + 1))) := fun a => (og_beats kq a).w
theorem o_kings : O_kings ad d (InvK (KX KG kq)) (InvK (KX KG (kq + 1))) := (og_kings kq).w
theorem o_master : O_master ad d (InvK (KX KG kq)) (InvK (KX KG (kq + 1))) := fun a => (og_master kq a).w
theorem o_table : O_table ad d (InvK (KX KG kq)) (InvK (KX KG (kq + 1))) := (os_table (KX.kd kq KG.kd)).w
theorem o_spread : O_spread ad d (InvK (KX KG kq)) (InvK (KX KG (kq + 1))) := (og_spread kq).w
theorem o_rest : O_rest ad d (InvK (KX KG kq)) (InvK (KX KG (kq + 1))) := og_rest kq
theorem o_mean : O_mean ad d (InvK (KX KG kq)) (InvK (KX KG (kq + 1))) := fun a b => og_mean kq a b
theorem o_soon : O_soon ad d (InvK (KX KG kq)) (InvK (KX KG (kq + 1))) := fun a b c => og_soon kq a b c
theorem o_wins : O_wins ad d (InvK (KX KG kq)) (InvK (KX KG (kq + 1))) := fun a b c => og_wins kq a b c
theorem o_hopes : O_hopes ad d (InvK (KX KG kq)) (InvK (KX KG (kq + 1))) := fun a => og_hopes kq a
theorem o_top : O_top ad d (InvK (KX KG kq)) (InvK (KX KG (kq + 1))) := fun a b c => og_top kq a b c
theorem o_quick : O_quick ad d (InvK (KX KG kq)) (InvK (KX KG (kq + 1))) := fun a => og_quick kq a
theorem o_best : O_best ad d (InvK (KX KG kq)) (InvK (KX KG (kq + 1))) := fun a b => og_best kq a b
theorem o_even : O_even ad d (InvK (KX KG kq)) (InvK (KX KG (kq + 1))) := fun a => og_even kq a
theorem o_all : O_all ad d (InvK (KX KG kq)) (InvK (KX KG (kq + 1))) := og_all kq
theorem o_next : O_next ad d (InvK (KX KG kq)) (InvK (KX KG (kq + 1))) := fun a => (og_next kq a).w
theorem o_seen : O_seen ad d (InvK (KX KG kq)) (InvK (KX KG (kq + 1))) := fun a b c => (os_seen (KX.kd kq KG.kd) a b c).w
theorem o_found : O_found ad d (InvK (KX KG kq)) (InvK (KX KG (kq + 1))) := ow_found (KX.kd kq KG.kd)
theorem o_prize : O_prize ad d (InvK (KX KG kq)) (InvK (KX KG (kq + 1))) := (og_prize kq).w
theorem o_pays : O_pays ad d (InvK (KX KG kq)) (InvK (KX KG (kq + 1))) := fun a b => (og_pays kq a b).w
theorem o_laws : O_laws ad d (InvK (KX KG kq)) (InvK (KX KG (kq + 1))) := fun a => (og_laws kq a).w
theorem o_seed : O_seed ad d (InvK (KX KG kq)) (InvK (KX KG (kq + 1))) := fun a => (og_seed kq a).w
theorem o_keep : O_keep ad d (InvK (KX KG kq)) (InvK (KX KG (kq + 1))) := fun a => (og_keep kq a).w
theorem o_again : O_again ad d (InvK (KX KG kq)) (InvK (KX KG (kq + 1))) := fun a => (og_again kq a).w
theorem o_count : O_count ad d (InvK (KX KG kq)) (InvK (KX KG (kq + 1))) := fun a => ow_count (KX.kd kq KG.kd) a
theorem o_of : O_of ad d (InvK (KX KG kq)) (InvK (KX KG (kq + 1))) := fun a b m I => by
  have hx : CtX ad μX11_of (d + 299) [.ref (ad 0), .int a, .int b] m (fun r m' => WT m' ∧ Fx (RS [14]) m m' ∧ ∃ v : Int32, r = some (.int v)) (fun m' => WT m' ∧ Fx (RS [14]) m m') := by
    refine v_X11_of (d := d + 293) ((s_X1_has I.1).to ?_)
    rintro _ m1 ⟨w1, f1, v, rfl, -, -, p1⟩
    have f1' : Fx (RS [14]) m m1 := (Fx.rf (S := RS [14])).tr f1 (RS_sub rfl)
    refine ⟨v, rfl, fun c => ?_, fun _ => ⟨w1, f1'⟩⟩
    have c' := z_ne c
    have z0 : (0 : Int32).toInt = 0 := rfl
    have V : vp_in a 8 := vpi (by omega) (by omega)
    refine ⟨fun _ => (s_X1_power w1 SS_21 (by omega) (by omega)).to ?_, fun _ => ⟨V, w1, f1', _, rfl⟩, fun _ => ⟨V, w1, f1', _, rfl⟩, fun _ => (s_X1_isIll w1).to ?_, fun _ => ⟨V, w1, f1', _, rfl⟩, fun _ _ _ _ _ => ⟨w1, f1'⟩⟩
    · rintro _ m2 ⟨w2, f2, v2, rfl⟩
      exact ⟨v2, rfl, w2, f1'.tr f2 (RS_sub rfl), _, rfl⟩
    · rintro _ m2 ⟨w2, f2, v2, rfl, -⟩
      exact ⟨v2, rfl, fun _ => ⟨w2, f1'.tr f2 (RS_sub rfl), _, rfl⟩, fun _ => ⟨w2, f1'.tr f2 (RS_sub rfl), _, rfl⟩⟩
  have fin : ∀ m1, WT m1 → Fx (RS [14, 51]) m m1 → Ct ad μX12_of (d + 300) [.ref (ad 187), .int a, .int b] m1 (fun r m3 => (∃ w : Int32, r = some (.int w)) ∧ InvK (KX KG (kq + 1)) m3) := by
    intro m1 w1 f1
    refine (s_X12_of w1).to ?_
    rintro _ m2 ⟨w2, f2, v2, rfl⟩
    exact ⟨⟨_, rfl⟩, w2, I.2.1.f2 f1 f2 rfl rfl, KX.kd kq KG.kd f1 f2 I.2.2 rfl rfl⟩
  refine ctg_of hx (fun r m1 h => ?_) (fun m1 h => ?_)
  · obtain ⟨w1, f1, v, rfl⟩ := h
    exact ⟨v, rfl, ⟨_, rfl⟩, fin _ w1.l (((Fx.rf (S := RS [14, 51])).tr f1 (RS_sub rfl)).l rfl)⟩
  · exact ⟨⟨_, rfl⟩, fin _ h.1 ((Fx.rf (S := RS [14, 51])).tr h.2 (RS_sub rfl))⟩
theorem o_row : O_row ad d (InvK (KX KG kq)) (InvK (KX KG (kq + 1))) := fun a m I => by
  have hx : CtX ad μX11_row (d + 299) [.ref (ad 0), .int a] m (fun r m' => m' = m ∧ ∃ v : Int64, r = some (.long v)) (fun m' => m' = m) := by
    have t := I.1.at (a := 0) (k := 18) rfl
    refine v_X11_row (d := d + 293) ⟨fun _ => rfl, fun c => ⟨fun c2 => ⟨?_, rfl, _, rfl⟩, fun _ => rfl⟩⟩
    have c' := y_nltr (n := 0) rfl c
    have c2' := z_lt c2
    exact vpi (by omega) (by omega)
  have fin : ∀ m1, WT m1 → Fx (RS [51]) m m1 → Ct ad μX12_row (d + 300) [.ref (ad 187), .int a] m1 (fun r m3 => (∃ w : Int64, r = some (.long w)) ∧ InvK (KX KG (kq + 1)) m3) := by
    intro m1 w1 f1
    refine (s_X12_row w1).to ?_
    rintro _ m2 ⟨w2, f2, v2, rfl⟩
    exact ⟨⟨_, rfl⟩, w2, I.2.1.f2 f1 f2 rfl rfl, KX.kd kq KG.kd f1 f2 I.2.2 rfl rfl⟩
  refine ctg_row hx (fun r m1 h => ?_) (fun m1 h => ?_)
  · obtain ⟨rfl, v, rfl⟩ := h
    exact ⟨v, rfl, ⟨_, rfl⟩, fin _ I.1.l ((Fx.rf (S := RS [51])).l rfl)⟩
  · subst h
    exact ⟨⟨_, rfl⟩, fin _ I.1 Fx.rf⟩
theorem all_ops (hc : kq < 1000) : OPS ad d (InvK (KX KG kq)) (InvK (KX KG (kq + 1))) := ⟨o_sign, o_end, o_league hc, o_rule, o_plan, o_skill, o_of, o_law, o_sheet, o_ill, o_swap, o_circle, o_game, o_odds, o_play, o_undo, o_judge, o_rounds, o_beats, o_kings, o_master, o_table, o_spread, o_rest, o_mean, o_soon, o_wins, o_hopes, o_top, o_quick, o_best, o_even, o_all, o_next, o_seen, o_found, o_prize, o_pays, o_laws, o_seed, o_keep, o_again, o_count, o_row, fun _ I => ⟨I.1, I.2.1, KX.kd kq KG.kd (Fx.rf (S := RS [])) (Fx.rf (S := RS [])) I.2.2 rfl rfl⟩⟩
end OPW
end
section
/-! THE START: the new objects -/
section STA
set_option maxRecDepth 100000 in
set_option maxHeartbeats 4000000 in
theorem wt0_1 (a k : Nat) (lo hi : Int) (e : TY a k = some (lo, hi)) : lo ≤ (m0.1 a k).toInt ∧ (m0.1 a k).toInt ≤ hi := by
  unfold TY at e
  by_cases h : a < 146
  · rw [if_pos h] at e
    by_cases h : a < 135
    · rw [if_pos h] at e
      by_cases h : a < 10
      · rw [if_pos h] at e
        by_cases h : a = 0
        · rw [if_pos h] at e
          subst h
          by_cases hk : k = 15
          · rw [if_pos hk] at e
            subst hk
            cases e
            decide +kernel
          · rw [if_neg hk] at e
            by_cases hk : k = 18
            · rw [if_pos hk] at e
              subst hk
              cases e
              decide +kernel
            · rw [if_neg hk] at e
              cases e
        · rw [if_neg h] at e
          by_cases h : a = 1
          · rw [if_pos h] at e
            subst h
            by_cases hk : k = 1
            · rw [if_pos hk] at e
              subst hk
              cases e
              decide +kernel
            · rw [if_neg hk] at e
              cases e
          · rw [if_neg h] at e
            by_cases h : a = 3
            · rw [if_pos h] at e
              subst h
              by_cases hk : k = 3
              · rw [if_pos hk] at e
                subst hk
                cases e
                decide +kernel
              · rw [if_neg hk] at e
                by_cases hk : k = 4
                · rw [if_pos hk] at e
                  subst hk
                  cases e
                  decide +kernel
                · rw [if_neg hk] at e
                  cases e
            · rw [if_neg h] at e
              by_cases h : a = 5
              · rw [if_pos h] at e
                subst h
                by_cases hk : k = 4
                · rw [if_pos hk] at e
                  subst hk
                  cases e
                  decide +kernel
                · rw [if_neg hk] at e
                  by_cases hk : k = 5
                  · rw [if_pos hk] at e
                    subst hk
                    cases e
                    decide +kernel
                  · rw [if_neg hk] at e
                    by_cases hk : k = 6
                    · rw [if_pos hk] at e
                      subst hk
                      cases e
                      decide +kernel
                    · rw [if_neg hk] at e
                      cases e
              · rw [if_neg h] at e
                cases e
      · rw [if_neg h] at e
        by_cases h : a = 10
        · rw [if_pos h] at e
          subst h
          by_cases hk : k = 4
          · rw [if_pos hk] at e
            subst hk
            cases e
            decide +kernel
          · rw [if_neg hk] at e
            by_cases hk : k = 5
            · rw [if_pos hk] at e
              subst hk
              cases e
              decide +kernel
            · rw [if_neg hk] at e
              by_cases hk : k = 6
              · rw [if_pos hk] at e
                subst hk
                cases e
                decide +kernel
              · rw [if_neg hk] at e
                cases e
        · rw [if_neg h] at e
          by_cases h : a = 15
          · rw [if_pos h] at e
            subst h
            by_cases hk : k = 1
            · rw [if_pos hk] at e
              subst hk
              cases e
              decide +kernel
            · rw [if_neg hk] at e
              by_cases hk : k = 2
              · rw [if_pos hk] at e
                subst hk
                cases e
                decide +kernel
              · rw [if_neg hk] at e
                cases e
          · rw [if_neg h] at e
            by_cases h : a = 31
            · rw [if_pos h] at e
              subst h
              by_cases hk : k = 1
              · rw [if_pos hk] at e
                subst hk
                cases e
                decide +kernel
              · rw [if_neg hk] at e
                by_cases hk : k = 2
                · rw [if_pos hk] at e
                  subst hk
                  cases e
                  decide +kernel
                · rw [if_neg hk] at e
                  cases e
            · rw [if_neg h] at e
              by_cases h : a = 134
              · rw [if_pos h] at e
                subst h
                by_cases hk : k = 5
                · rw [if_pos hk] at e
                  subst hk
                  cases e
                  decide +kernel
                · rw [if_neg hk] at e
                  by_cases hk : k = 6
                  · rw [if_pos hk] at e
                    subst hk
                    cases e
                    decide +kernel
                  · rw [if_neg hk] at e
                    cases e
              · rw [if_neg h] at e
                cases e
    · rw [if_neg h] at e
      by_cases h : a < 140
      · rw [if_pos h] at e
        by_cases h : a = 135
        · rw [if_pos h] at e
          subst h
          cases e
          exact (by decide : (0 : Int) ≤ (0 : Int32).toInt ∧ (0 : Int32).toInt ≤ (7 : Int))
        · rw [if_neg h] at e
          by_cases h : a = 136
          · rw [if_pos h] at e
            subst h
            cases e
            exact (by decide : (0 : Int) ≤ (0 : Int32).toInt ∧ (0 : Int32).toInt ≤ (7 : Int))
          · rw [if_neg h] at e
            by_cases h : a = 138
            · rw [if_pos h] at e
              subst h
              cases e
              exact (by decide : (0 : Int) ≤ (0 : Int32).toInt ∧ (0 : Int32).toInt ≤ (48 : Int))
            · rw [if_neg h] at e
              by_cases h : a = 139
              · rw [if_pos h] at e
                subst h
                cases e
                exact (by decide : (0 : Int) ≤ (0 : Int32).toInt ∧ (0 : Int32).toInt ≤ (7 : Int))
              · rw [if_neg h] at e
                cases e
      · rw [if_neg h] at e
        by_cases h : a < 142
        · rw [if_pos h] at e
          by_cases h : a = 140
          · rw [if_pos h] at e
            subst h
            by_cases hk : k = 5
            · rw [if_pos hk] at e
              subst hk
              cases e
              decide +kernel
            · rw [if_neg hk] at e
              by_cases hk : k = 6
              · rw [if_pos hk] at e
                subst hk
                cases e
                decide +kernel
              · rw [if_neg hk] at e
                cases e
          · rw [if_neg h] at e
            by_cases h : a = 141
            · rw [if_pos h] at e
              subst h
              cases e
              exact (by decide : (0 : Int) ≤ (0 : Int32).toInt ∧ (0 : Int32).toInt ≤ (7 : Int))
            · rw [if_neg h] at e
              cases e
        · rw [if_neg h] at e
          by_cases h : a = 142
          · rw [if_pos h] at e
            subst h
            cases e
            exact (by decide : (0 : Int) ≤ (0 : Int32).toInt ∧ (0 : Int32).toInt ≤ (7 : Int))
          · rw [if_neg h] at e
            by_cases h : a = 144
            · rw [if_pos h] at e
              subst h
              cases e
              exact (by decide : (0 : Int) ≤ (0 : Int32).toInt ∧ (0 : Int32).toInt ≤ (48 : Int))
            · rw [if_neg h] at e
              by_cases h : a = 145
              · rw [if_pos h] at e
                subst h
                cases e
                exact (by decide : (0 : Int) ≤ (0 : Int32).toInt ∧ (0 : Int32).toInt ≤ (7 : Int))
              · rw [if_neg h] at e
                cases e
  · rw [if_neg h] at e
    by_cases h : a < 166
    · rw [if_pos h] at e
      by_cases h : a < 155
      · rw [if_pos h] at e
        by_cases h : a = 146
        · rw [if_pos h] at e
          subst h
          cases e
          exact (by decide : (0 : Int) ≤ (0 : Int32).toInt ∧ (0 : Int32).toInt ≤ (7 : Int))
        · rw [if_neg h] at e
          by_cases h : a = 147
          · rw [if_pos h] at e
            subst h
            cases e
            exact (by decide : (0 : Int) ≤ (0 : Int32).toInt ∧ (0 : Int32).toInt ≤ (7 : Int))
          · rw [if_neg h] at e
            by_cases h : a = 151
            · rw [if_pos h] at e
              subst h
              by_cases hk : k = 4
              · rw [if_pos hk] at e
                subst hk
                cases e
                decide +kernel
              · rw [if_neg hk] at e
                cases e
            · rw [if_neg h] at e
              by_cases h : a = 154
              · rw [if_pos h] at e
                subst h
                cases e
                exact (by decide : (0 : Int) ≤ (0 : Int32).toInt ∧ (0 : Int32).toInt ≤ (3000 : Int))
              · rw [if_neg h] at e
                cases e
      · rw [if_neg h] at e
        by_cases h : a = 155
        · rw [if_pos h] at e
          subst h
          cases e
          exact (by decide : (0 : Int) ≤ (0 : Int32).toInt ∧ (0 : Int32).toInt ≤ (8191 : Int))
        · rw [if_neg h] at e
          by_cases h : a = 156
          · rw [if_pos h] at e
            subst h
            by_cases hk : k = 6
            · rw [if_pos hk] at e
              subst hk
              cases e
              decide +kernel
            · rw [if_neg hk] at e
              cases e
          · rw [if_neg h] at e
            by_cases h : a = 163
            · rw [if_pos h] at e
              subst h
              cases e
              exact (by decide : (-1 : Int) ≤ (0 : Int32).toInt ∧ (0 : Int32).toInt ≤ (2999 : Int))
            · rw [if_neg h] at e
              by_cases h : a = 165
              · rw [if_pos h] at e
                subst h
                cases e
                exact ⟨(by decide : (0 : Int) ≤ (0 : Int32).toInt), Int.natCast_nonneg k⟩
              · rw [if_neg h] at e
                cases e
    · rw [if_neg h] at e
      by_cases h : a < 203
      · rw [if_pos h] at e
        by_cases h : a = 166
        · rw [if_pos h] at e
          subst h
          by_cases hk : k = 3
          · rw [if_pos hk] at e
            subst hk
            cases e
            decide +kernel
          · rw [if_neg hk] at e
            cases e
        · rw [if_neg h] at e
          by_cases h : a = 187
          · rw [if_pos h] at e
            subst h
            by_cases hk : k = 0
            · rw [if_pos hk] at e
              subst hk
              cases e
              decide +kernel
            · rw [if_neg hk] at e
              by_cases hk : k = 1
              · rw [if_pos hk] at e
                subst hk
                cases e
                decide +kernel
              · rw [if_neg hk] at e
                by_cases hk : k = 10
                · rw [if_pos hk] at e
                  subst hk
                  cases e
                  decide +kernel
                · rw [if_neg hk] at e
                  by_cases hk : k = 11
                  · rw [if_pos hk] at e
                    subst hk
                    cases e
                    decide +kernel
                  · rw [if_neg hk] at e
                    by_cases hk : k = 14
                    · rw [if_pos hk] at e
                      subst hk
                      cases e
                      decide +kernel
                    · rw [if_neg hk] at e
                      by_cases hk : k = 16
                      · rw [if_pos hk] at e
                        subst hk
                        cases e
                        decide +kernel
                      · rw [if_neg hk] at e
                        by_cases hk : k = 27
                        · rw [if_pos hk] at e
                          subst hk
                          cases e
                          decide +kernel
                        · rw [if_neg hk] at e
                          by_cases hk : k = 28
                          · rw [if_pos hk] at e
                            subst hk
                            cases e
                            decide +kernel
                          · rw [if_neg hk] at e
                            by_cases hk : k = 30
                            · rw [if_pos hk] at e
                              subst hk
                              cases e
                              decide +kernel
                            · rw [if_neg hk] at e
                              by_cases hk : k = 43
                              · rw [if_pos hk] at e
                                subst hk
                                cases e
                                decide +kernel
                              · rw [if_neg hk] at e
                                by_cases hk : k = 45
                                · rw [if_pos hk] at e
                                  subst hk
                                  cases e
                                  decide +kernel
                                · rw [if_neg hk] at e
                                  by_cases hk : k = 46
                                  · rw [if_pos hk] at e
                                    subst hk
                                    cases e
                                    decide +kernel
                                  · rw [if_neg hk] at e
                                    by_cases hk : k = 52
                                    · rw [if_pos hk] at e
                                      subst hk
                                      cases e
                                      decide +kernel
                                    · rw [if_neg hk] at e
                                      cases e
          · rw [if_neg h] at e
            by_cases h : a = 194
            · rw [if_pos h] at e
              subst h
              by_cases hk : k % 4 < 2
              · rw [if_pos hk] at e
                cases e
                exact (by decide : (0 : Int) ≤ (0 : Int32).toInt ∧ (0 : Int32).toInt ≤ (7 : Int))
              · rw [if_neg hk] at e
                cases e
            · rw [if_neg h] at e
              by_cases h : a = 199
              · rw [if_pos h] at e
                subst h
                by_cases hk : k % 4 < 2
                · rw [if_pos hk] at e
                  cases e
                  exact (by decide : (0 : Int) ≤ (0 : Int32).toInt ∧ (0 : Int32).toInt ≤ (7 : Int))
                · rw [if_neg hk] at e
                  cases e
              · rw [if_neg h] at e
                cases e
      · rw [if_neg h] at e
        by_cases h : a < 208
        · rw [if_pos h] at e
          by_cases h : a = 203
          · rw [if_pos h] at e
            subst h
            cases e
            exact (by decide : (0 : Int) ≤ (0 : Int32).toInt ∧ (0 : Int32).toInt ≤ (8 : Int))
          · rw [if_neg h] at e
            by_cases h : a = 207
            · rw [if_pos h] at e
              subst h
              cases e
              exact ⟨(by decide : (0 : Int) ≤ (0 : Int32).toInt), Int.natCast_nonneg k⟩
            · rw [if_neg h] at e
              cases e
        · rw [if_neg h] at e
          by_cases h : a = 208
          · rw [if_pos h] at e
            subst h
            cases e
            exact (by decide : (-1 : Int) ≤ (0 : Int32).toInt ∧ (0 : Int32).toInt ≤ (2999 : Int))
          · rw [if_neg h] at e
            by_cases h : a = 210
            · rw [if_pos h] at e
              subst h
              cases e
              exact (by decide : (0 : Int) ≤ (0 : Int32).toInt ∧ (0 : Int32).toInt ≤ (3000 : Int))
            · rw [if_neg h] at e
              by_cases h : a = 213
              · rw [if_pos h] at e
                subst h
                by_cases hk : k % 3 < 2
                · rw [if_pos hk] at e
                  cases e
                  exact (by decide : (0 : Int) ≤ (0 : Int32).toInt ∧ (0 : Int32).toInt ≤ (7 : Int))
                · rw [if_neg hk] at e
                  cases e
              · rw [if_neg h] at e
                cases e
theorem SS_r33 : SS 33 6 := by
  refine ⟨St_33, fun j k hj => ?_⟩
  have h : j = 0 ∨ j = 1 ∨ j = 2 ∨ j = 3 ∨ j = 4 := by omega
  rcases h with rfl | rfl | rfl | rfl | rfl
  all_goals exact ⟨rfl, rfl⟩
theorem SS_r38 : SS 38 6 := by
  refine ⟨St_38, fun j k hj => ?_⟩
  have h : j = 0 ∨ j = 1 ∨ j = 2 ∨ j = 3 ∨ j = 4 := by omega
  rcases h with rfl | rfl | rfl | rfl | rfl
  all_goals exact ⟨rfl, rfl⟩
theorem SS_r43 : SS 43 6 := by
  refine ⟨St_43, fun j k hj => ?_⟩
  have h : j = 0 ∨ j = 1 ∨ j = 2 ∨ j = 3 ∨ j = 4 := by omega
  rcases h with rfl | rfl | rfl | rfl | rfl
  all_goals exact ⟨rfl, rfl⟩
theorem SS_r48 : SS 48 6 := by
  refine ⟨St_48, fun j k hj => ?_⟩
  have h : j = 0 ∨ j = 1 ∨ j = 2 ∨ j = 3 ∨ j = 4 := by omega
  rcases h with rfl | rfl | rfl | rfl | rfl
  all_goals exact ⟨rfl, rfl⟩
theorem SS_r53 : SS 53 6 := by
  refine ⟨St_53, fun j k hj => ?_⟩
  have h : j = 0 ∨ j = 1 ∨ j = 2 ∨ j = 3 ∨ j = 4 := by omega
  rcases h with rfl | rfl | rfl | rfl | rfl
  all_goals exact ⟨rfl, rfl⟩
theorem SS_r58 : SS 58 6 := by
  refine ⟨St_58, fun j k hj => ?_⟩
  have h : j = 0 ∨ j = 1 ∨ j = 2 ∨ j = 3 ∨ j = 4 := by omega
  rcases h with rfl | rfl | rfl | rfl | rfl
  all_goals exact ⟨rfl, rfl⟩
theorem SS_r63 : SS 63 6 := by
  refine ⟨St_63, fun j k hj => ?_⟩
  have h : j = 0 ∨ j = 1 ∨ j = 2 ∨ j = 3 ∨ j = 4 := by omega
  rcases h with rfl | rfl | rfl | rfl | rfl
  all_goals exact ⟨rfl, rfl⟩
theorem SS_r68 : SS 68 6 := by
  refine ⟨St_68, fun j k hj => ?_⟩
  have h : j = 0 ∨ j = 1 ∨ j = 2 ∨ j = 3 ∨ j = 4 := by omega
  rcases h with rfl | rfl | rfl | rfl | rfl
  all_goals exact ⟨rfl, rfl⟩
theorem SS_r73 : SS 73 6 := by
  refine ⟨St_73, fun j k hj => ?_⟩
  have h : j = 0 ∨ j = 1 ∨ j = 2 ∨ j = 3 ∨ j = 4 := by omega
  rcases h with rfl | rfl | rfl | rfl | rfl
  all_goals exact ⟨rfl, rfl⟩
theorem SS_r78 : SS 78 6 := by
  refine ⟨St_78, fun j k hj => ?_⟩
  have h : j = 0 ∨ j = 1 ∨ j = 2 ∨ j = 3 ∨ j = 4 := by omega
  rcases h with rfl | rfl | rfl | rfl | rfl
  all_goals exact ⟨rfl, rfl⟩
theorem SS_r83 : SS 83 6 := by
  refine ⟨St_83, fun j k hj => ?_⟩
  have h : j = 0 ∨ j = 1 ∨ j = 2 ∨ j = 3 ∨ j = 4 := by omega
  rcases h with rfl | rfl | rfl | rfl | rfl
  all_goals exact ⟨rfl, rfl⟩
theorem SS_r88 : SS 88 6 := by
  refine ⟨St_88, fun j k hj => ?_⟩
  have h : j = 0 ∨ j = 1 ∨ j = 2 ∨ j = 3 ∨ j = 4 := by omega
  rcases h with rfl | rfl | rfl | rfl | rfl
  all_goals exact ⟨rfl, rfl⟩
theorem SS_r93 : SS 93 6 := by
  refine ⟨St_93, fun j k hj => ?_⟩
  have h : j = 0 ∨ j = 1 ∨ j = 2 ∨ j = 3 ∨ j = 4 := by omega
  rcases h with rfl | rfl | rfl | rfl | rfl
  all_goals exact ⟨rfl, rfl⟩
theorem SS_r98 : SS 98 6 := by
  refine ⟨St_98, fun j k hj => ?_⟩
  have h : j = 0 ∨ j = 1 ∨ j = 2 ∨ j = 3 ∨ j = 4 := by omega
  rcases h with rfl | rfl | rfl | rfl | rfl
  all_goals exact ⟨rfl, rfl⟩
theorem SS_r103 : SS 103 6 := by
  refine ⟨St_103, fun j k hj => ?_⟩
  have h : j = 0 ∨ j = 1 ∨ j = 2 ∨ j = 3 ∨ j = 4 := by omega
  rcases h with rfl | rfl | rfl | rfl | rfl
  all_goals exact ⟨rfl, rfl⟩
theorem SS_r108 : SS 108 6 := by
  refine ⟨St_108, fun j k hj => ?_⟩
  have h : j = 0 ∨ j = 1 ∨ j = 2 ∨ j = 3 ∨ j = 4 := by omega
  rcases h with rfl | rfl | rfl | rfl | rfl
  all_goals exact ⟨rfl, rfl⟩
theorem SS_r113 : SS 113 6 := by
  refine ⟨St_113, fun j k hj => ?_⟩
  have h : j = 0 ∨ j = 1 ∨ j = 2 ∨ j = 3 ∨ j = 4 := by omega
  rcases h with rfl | rfl | rfl | rfl | rfl
  all_goals exact ⟨rfl, rfl⟩
theorem SS_r118 : SS 118 6 := by
  refine ⟨St_118, fun j k hj => ?_⟩
  have h : j = 0 ∨ j = 1 ∨ j = 2 ∨ j = 3 ∨ j = 4 := by omega
  rcases h with rfl | rfl | rfl | rfl | rfl
  all_goals exact ⟨rfl, rfl⟩
theorem SS_r123 : SS 123 6 := by
  refine ⟨St_123, fun j k hj => ?_⟩
  have h : j = 0 ∨ j = 1 ∨ j = 2 ∨ j = 3 ∨ j = 4 := by omega
  rcases h with rfl | rfl | rfl | rfl | rfl
  all_goals exact ⟨rfl, rfl⟩
theorem SS_r128 : SS 128 6 := by
  refine ⟨St_128, fun j k hj => ?_⟩
  have h : j = 0 ∨ j = 1 ∨ j = 2 ∨ j = 3 ∨ j = 4 := by omega
  rcases h with rfl | rfl | rfl | rfl | rfl
  all_goals exact ⟨rfl, rfl⟩
theorem SS_rn0 : ∀ k, k < 20 → SS (33 + 5 * k) 6 := by
  intro k hk
  have h : k = 0 ∨ k = 1 ∨ k = 2 ∨ k = 3 ∨ k = 4 ∨ k = 5 ∨ k = 6 ∨ k = 7 ∨ k = 8 ∨ k = 9 ∨ k = 10 ∨ k = 11 ∨ k = 12 ∨ k = 13 ∨ k = 14 ∨ k = 15 ∨ k = 16 ∨ k = 17 ∨ k = 18 ∨ k = 19 := by omega
  rcases h with rfl | rfl | rfl | rfl | rfl | rfl | rfl | rfl | rfl | rfl | rfl | rfl | rfl | rfl | rfl | rfl | rfl | rfl | rfl | rfl
  · exact SS_r33
  · exact SS_r38
  · exact SS_r43
  · exact SS_r48
  · exact SS_r53
  · exact SS_r58
  · exact SS_r63
  · exact SS_r68
  · exact SS_r73
  · exact SS_r78
  · exact SS_r83
  · exact SS_r88
  · exact SS_r93
  · exact SS_r98
  · exact SS_r103
  · exact SS_r108
  · exact SS_r113
  · exact SS_r118
  · exact SS_r123
  · exact SS_r128
set_option maxRecDepth 100000 in
theorem ring0 : ∀ k : Fin 20, m0.2.2 32 k.val = some (33 + 5 * k.val) := by decide +kernel
set_option maxRecDepth 100000 in
theorem kept0 : ∀ k : Fin 2, m0.2.2 133 k.val = some (173 + 7 * k.val) := by decide +kernel
set_option maxRecDepth 100000 in
theorem rf0 : RF m0.2.2 := by
  refine ⟨⟨5, by decide +kernel, Or.inl rfl⟩, ⟨10, by decide +kernel, Or.inr rfl⟩, ⟨134, by decide +kernel, Or.inl rfl⟩, ⟨140, by decide +kernel, Or.inr rfl⟩, fun k hk => ⟨33 + 5 * k, ring0 ⟨k, hk⟩, SS_rn0 k hk⟩, fun k hk => ⟨173 + 7 * k, kept0 ⟨k, hk⟩, ?_⟩, fun k hk => ring0 ⟨k, hk⟩, fun k hk => kept0 ⟨k, hk⟩⟩
  omega
set_option maxRecDepth 100000 in
theorem iv_m0 : IV m0 := by
  have z : (m0.1 1 1).toInt = 0 := by decide +kernel
  refine ⟨Or.inl ?_, ⟨?_, fun k hk => absurd hk (by omega)⟩, ?_, ?_, ?_⟩
  · decide +kernel
  · decide +kernel
  · decide +kernel
  · decide +kernel
  · decide +kernel
set_option maxRecDepth 100000 in
theorem kb_m0 : KB 0 m0 := by
  have l0 : ∀ k : Fin 5, m0.1 4 k.val = m0.1 193 k.val := by decide +kernel
  have q1 : ∀ i : Fin 2, m0.1 (173 + 7 * i.val) 4 = 0 := by decide +kernel
  have q2 : ∀ i : Fin 2, m0.1 215 i.val = 0 := by decide +kernel
  have q3 : ∀ i : Fin 2, m0.1 216 i.val = 0 := by decide +kernel
  refine ⟨⟨134, 140, ⟨by decide +kernel, by decide +kernel, Or.inl ⟨rfl, rfl⟩⟩, 0, 0, 0, (fun _ => 0), by decide +kernel, by decide, by decide +kernel, by decide +kernel, by decide +kernel, by decide +kernel, by decide, by decide, fun _ => rfl, fun j hj => absurd hj (Nat.not_lt_zero j), ⟨rfl, fun ρ hρ => by omega, Nat.le_refl _⟩, fun ρ hρ => absurd hρ (Nat.not_lt_zero ρ)⟩, fun k hk => l0 ⟨k, hk⟩, 0, Nat.le_refl _, by decide +kernel, fun i hi => ⟨⟨0, Nat.le_refl _, q3 ⟨i, hi⟩⟩, ⟨fun h => absurd (q1 ⟨i, hi⟩) h, fun h => absurd (q2 ⟨i, hi⟩) h.1⟩, fun h => absurd (q1 ⟨i, hi⟩) h⟩⟩
set_option maxRecDepth 100000 in
theorem ruk_m0 : RuK m0 := ⟨5, 10, ⟨by decide +kernel, by decide +kernel, Or.inl ⟨rfl, rfl⟩⟩, [], 0, ⟨by decide +kernel, fun i hi => absurd hi (Nat.not_lt_zero i), by decide⟩, by decide +kernel, by decide, Or.inl ⟨rfl, rfl⟩⟩
set_option maxRecDepth 100000 in
theorem nI_small {x : Int32} (h0 : 0 ≤ x.toInt) : x = nI x.toNatClampNeg := by
  obtain ⟨j, hj, rfl⟩ := zn_of h0
  rw [nI_clamp hj]
set_option maxRecDepth 100000 in
theorem kg_m0 : KG m0 := by
  have z22 : ∀ k : Fin 32, m0.1 22 k.val = 0 := by decide +kernel
  have ar : m0.1 3 4 = m0.1 187 0 := by decide +kernel
  have ar0 : 0 ≤ (m0.1 187 0).toInt ∧ (m0.1 187 0).toInt ≤ 4 := by decide +kernel
  have n0 : m0.1 3 3 = nI 0 := by decide +kernel
  have n1 : m0.1 187 1 = nI 0 := by decide +kernel
  have lu : m0.1 187 8 = m0.1 21 4 := by decide +kernel
  have lw : ∀ k : Fin 5, m0.1 193 k.val = m0.1 4 k.val := by decide +kernel
  have il : m0.1 3 5 = 0 := by decide +kernel
  have u1 : m0.1 31 1 = 0 := by decide +kernel
  have u2 : m0.1 187 30 = 0 := by decide +kernel
  have p1 : ∀ i : Fin 2, m0.1 (173 + 7 * i.val) 4 = 0 := by decide +kernel
  have x1 : m0.1 0 11 = nI 0 := by decide +kernel
  have x2 : m0.1 187 12 = nI 0 := by decide +kernel
  have x3 : m0.1 187 11 = nI 0 := by decide +kernel
  have e0 : m0.1 187 0 = nI (m0.1 187 0).toNatClampNeg := nI_small ar0.1
  have e4 : (m0.1 187 0).toNatClampNeg ≤ 4 := by
    have := tn ar0.1
    omega
  obtain ⟨P, Q, hR, cl, z, hX, h27, hz, hv⟩ := ruk_m0
  refine ⟨(m0.1 22, m0.1 23, m0.1 24, m0.1 25, m0.1 21 4), (0, (m0.1 187 0).toNatClampNeg, m0.1 4, (fun _ => false), m0.1 200, z), [], ⟨fun _ _ => rfl, fun _ _ => rfl, fun _ _ => rfl, fun _ _ => rfl, rfl⟩, ⟨fun k hk => absurd hk (Nat.not_lt_zero k), fun k hk => absurd hk (Nat.not_lt_zero k), fun k hk => absurd hk (Nat.not_lt_zero k), fun k hk => absurd hk (Nat.not_lt_zero k), lu⟩, ⟨n0, ar.trans e0, Nat.zero_le _, e4, fun _ _ => rfl, ⟨fun s hs => ?_, fun _ _ => rfl⟩, P, Q, hR, cl, hX, hv⟩, ⟨n1, e0, Nat.zero_le _, e4, fun k hk => lw ⟨k, hk⟩, fun s hs => absurd hs (Nat.not_lt_zero s), h27, hz, fun _ _ => rfl⟩, UnC.wt ⟨wt0_1, rf0⟩ u1, UnM.wt u2, fun k _ h2 => z22 ⟨k, h2⟩, fun j hj => absurd hj (Nat.not_lt_zero j), fun i hi h => absurd (p1 ⟨i, hi⟩) h, ⟨0, 0, x1, x2, x3, by decide, Or.inl rfl⟩⟩
  rw [il]
  exact b_0 s
theorem inv_m0 : InvK (KX KG 0) m0 := ⟨⟨wt0_1, rf0⟩, iv_m0, kg_m0, kb_m0⟩
theorem law_run {ad : Nat → Nat} {sb Ls : Nat} {xs : Nat → Int32} (hL : Ls ≤ 3072) : AWl LAY ad (EX (SX sb Ls xs) 513 3078 LAY) μL_law (1747 + 301) (fun v _ => v = some (.int 1)) 23 [(0, .ref sb), (1, .ref (ad 0)), (2, .ref (ad 187)), (3, .ref (ad 217)), (4, .int 0)] [] m0 := by
  have := law_loop (ad := ad) (sb := sb) (xs := xs) (d := 1747) (n0 := Ls / 6) (Inv := fun c => InvK (KX KG c)) hL rfl (fun k hk => all_ops (by omega)) (Ls / 6) 0 m0 (by omega) inv_m0
  exact aw_drop (by omega) (by omega) this
end STA
end
