theorem qde_65 : (parseMethodDescriptor "(LWinnerTeaches$States;)V").map (fun d => d.parameters.length) = some 1 := by decide +kernel
/-! MAKING: the cells come one behind the other, at addresses from bs on, in the order of the layout -/
def adb (bs : Nat) : Nat → Nat := fun i => bs + i
/-- while cells are made: n of them there are, all that came since bs; kc cells of ks slots may still come; lq: the layout at the end -/
abbrev EK (X : Launch → State → (Nat → Prop) → Prop) (bs n kc ks : Nat) (lq : List Ent) : EB := (fun _ l _ _ s _ _ _ _ _ cs _ _ _ A _ => (s.heap.size + cs = bs + n ∧ ∀ q, A q → bs ≤ q) ∧ X l s A, kc, ks, lq)
def X0 : Launch → State → (Nat → Prop) → Prop := fun _ _ _ => True
abbrev ps (lay : List Ent) (e : Ent) : List Ent := lay ++ [e]
def zm (m : Wm) (a : Nat) : Wm := (fun b j => if b = a then 0 else m.1 b j, fun b j => if b = a then 0 else m.2.1 b j, fun b j => if b = a then none else m.2.2 b j)
theorem len_push {lay : List Ent} {n : Nat} {e : Ent} (h : lay.length = n) : (ps lay e).length = n + 1 := by simp [h]
theorem at_new {lay : List Ent} {n : Nat} {e : Ent} (h : lay.length = n) : (ps lay e)[n]? = some e := by subst h; simp
theorem at_old {lay : List Ent} {i : Nat} {x e : Ent} (h : lay[i]? = some x) : (ps lay e)[i]? = some x := by
  rw [List.getElem?_append_left (List.getElem?_eq_some_iff.mp h).1]; exact h
theorem cells_len {lay : List Ent} {ad : Nat → Nat} {cA : Nat → ClassId} {m : Wm} : (cellsOf lay ad cA m).length = lay.length := by simp [cellsOf]
theorem cells_push {lay : List Ent} {ad : Nat → Nat} {cA : Nat → ClassId} {m : Wm} {n : Nat} {e : Ent} (hn : lay.length = n) : cellsOf lay ad cA m ++ [(ad n, cellE ad cA (zm m n) n e)] = cellsOf (ps lay e) ad cA (zm m n) := by
  subst hn
  apply List.ext_getElem?
  intro i
  rcases Nat.lt_trichotomy i lay.length with h | h | h
  · rw [List.getElem?_append_left (by rw [cells_len]; exact h)]
    simp only [cellsOf, List.getElem?_mapIdx, List.getElem?_append_left h]
    cases lay[i]? with
    | none => rfl
    | some e' =>
      simp only [Option.map_some]
      rw [cellE_frame (m := m) (m' := zm m lay.length) (by funext j; simp [zm, Nat.ne_of_lt h]) (by funext j; simp [zm, Nat.ne_of_lt h]) (by funext j; simp [zm, Nat.ne_of_lt h])]
  · subst h
    rw [List.getElem?_append_right (by rw [cells_len]; exact Nat.le_refl _), cells_len, cells_at (at_new rfl)]
    simp
  · rw [List.getElem?_eq_none (by simp [cells_len]; omega), List.getElem?_eq_none (by simp [cells_len]; omega)]
theorem fresh_at {lay : List Ent} {bs n q : Nat} {cA : Nat → ClassId} {m : Wm} {A : Nat → Prop} {G : va_G} {H1 : Heap} {x : va_E} (hn : lay.length = n) (hA : ∀ q, A q → bs ≤ q) (hP1 : va_P G vwCl (cellsOf lay (adb bs) cA m ++ [(q, x)]) H1) (hD1 : va_D A (cellsOf lay (adb bs) cA m ++ [(q, x)])) (hs : H1.size ≤ bs + n + 1) : q = bs + n := by
  have hl : (cellsOf lay (adb bs) cA m).length = n := by rw [cells_len, hn]
  have hi : (cellsOf lay (adb bs) cA m ++ [(q, x)])[n]? = some (q, x) := by
    rw [List.getElem?_append_right (by omega), hl]; simp
  have h1 : q < H1.size := (hP1 n (q, x) hi).lt
  have h2 : bs ≤ q := hA q (hD1.2 n (q, x) hi)
  rcases Nat.lt_or_ge (q - bs) n with h3 | h3
  · exfalso
    have hlt : q - bs < lay.length := by omega
    have hj : (cellsOf lay (adb bs) cA m ++ [(q, x)])[q - bs]? = some (adb bs (q - bs), cellE (adb bs) cA m (q - bs) lay[q - bs]) := by
      rw [List.getElem?_append_left (by omega)]
      exact cells_at (List.getElem?_eq_getElem hlt)
    have := hD1.1 (q - bs) n _ _ hj hi (by show bs + (q - bs) = q; omega)
    omega
  · omega
theorem cA_eq {G : va_G} {cA : Nat → ClassId} {cA' : ClassId} {ty : FieldType} {t : Nat} {s : State} (hK : va_K G vwCl (tysOf cA ++ [(cA', ty)]) s) (ht : (tysOf cA)[t]? = some (cA t, ty)) : cA' = cA t := by
  have h1 := (hK.2 7 (cA', ty) rfl).2
  have h2 := (hK.2 t (cA t, ty) (by rw [List.getElem?_append_left (List.getElem?_eq_some_iff.mp ht).1]; exact ht)).2
  cases ty with
  | object C =>
    obtain ⟨_, _, _, _, _, e1⟩ := h1
    obtain ⟨_, _, _, _, _, e2⟩ := h2
    exact Option.some.inj (e1.symm.trans e2)
  | _ =>
    have h1 : s.vm.findClass _ = some cA' := h1
    have h2 : s.vm.findClass _ = some (cA t) := h2
    exact Option.some.inj (h1.symm.trans h2)
theorem set_arR {lay : List Ent} {ad : Nat → Nat} {cA : Nat → ClassId} {m : Wm} {a ty n k b : Nat} (he : lay[a]? = some (.inr (ty, n))) (ht : 4 < ty) :
    (cellsOf lay ad cA m).set a (ad a, .inl (cA ty, n, .inr (.inr (.inr (.inr (va_up (fun j => (m.2.2 a j).map ad) k (some (ad b)))))))) = cellsOf lay ad cA (uR m a k (some b)) := by
  refine cells_set he ?_ (fun b hb => ⟨rfl, rfl, ?_⟩)
  · show Sum.inl (cA ty, arrV' ad (uR m a k (some b)) a ty n) = _
    unfold arrV'
    rw [if_neg (by omega), if_neg (by omega)]
    congr 7
    funext j
    by_cases hj : j = k
    · simp [uR, va_up, hj]
    · simp [uR, va_up, hj]
  · funext j; simp [uR, hb]
def dfl (c : Nat) : Value := match c with
  | 0 => .int 0
  | 1 => .long 0
  | _ => .null
theorem fld_born {ad : Nat → Nat} {m : Wm} {n j : Nat} {cs : List Nat} (h : ∀ c ∈ cs, c ≤ 2) (hj : j < cs.length) : vp_V (fldVs ad (zm m n) n cs) j = dfl (cs.getD j 0) := by
  have h1 : cs[j]? = some cs[j] := List.getElem?_eq_getElem hj
  have h2 := fldVs_at (ad := ad) (m := zm m n) (a := n) h1
  have h3 := h cs[j] (List.getElem_mem hj)
  unfold vp_V
  rw [List.getD_eq_getElem?_getD, h2, List.getD_eq_getElem?_getD, h1]
  simp only [Option.getD_some]
  revert h3
  generalize cs[j] = c
  intro h3
  match c, h3 with
  | 0, _ => simp [fldV, dfl, zm]
  | 1, _ => simp [fldV, dfl, zm]
  | 2, _ => simp [fldV, dfl, zm, va_rf]
def rmk (d kc ks : Nat) : Room := { frames := d, cells := kc, slots := ks, locals := 41 * d }
def QK (bs : Nat) (lay' : List Ent) (G : va_G) (cA : Nat → ClassId) (A : Nat → Prop) (m' : Wm) : Array Value → State → Outcome → State → Prop := fun _ st oc t => (oc = .returned none ∧ va_P G vwCl (cellsOf lay' (adb bs) cA m') t.heap ∧ va_D A (cellsOf lay' (adb bs) cA m')) ∧ va_F A st t
/-- a constructor's contract: from the layout lay to lay', from the world m to m' -/
def CtK (bs : Nat) (lay lay' : List Ent) (μ : MI) (d kc ks : Nat) (args : List Value) (m m' : Wm) : Prop :=
  ∀ (l : Launch) (G : va_G) (cA : Nat → ClassId), Met l μ.1 (.code μ.1 μ.2.1 μ.2.2.1 μ.2.2.2.2 :: TW) (rmk d kc ks) (va_Pc args (PCt lay (adb bs) G cA m (bs + lay.length))) (QK bs lay' G cA (va_A (cellsOf lay (adb bs) cA m) (bs + lay.length)) m') kc ks (va_A (cellsOf lay (adb bs) cA m) (bs + lay.length))
theorem CtK.of {bs n : Nat} {lay lay' : List Ent} {μ : MI} {d kc ks : Nat} {args : List Value} {m m' : Wm} (hy : plainName μ.1.cls = true) (ho : μ.2.2.2.1 = μ.1.cls) (hret : μ.2.2.2.2 = none) (hn : lay.length = n) (hng : (lg_sl args).length ≤ μ.2.2.1) (h : AWl lay (adb bs) (EK X0 bs n kc ks lay') μ d (fun v w => v = none ∧ w = m') 0 (lv_args 0 args) [] m) : CtK bs lay lay' μ d kc ks args m m' := by
  subst hn
  intro l G cA
  refine Met.ofW (cc := μ.2.1) (maxL := μ.2.2.1) (ret := μ.2.2.2.2) hy rfl ?_
  intro p e s mt args' below meth c s₁ B hml hv
  obtain ⟨rfl, hsz, hP, hK, hD0, hN⟩ := hv
  have hts := atoms_spec (ws := .code μ.1 μ.2.1 μ.2.2.1 μ.2.2.2.2 :: TW) B.pre
  have hD : va_D (va_A (cellsOf lay (adb bs) cA m) (bs + lay.length)) (cellsOf lay (adb bs) cA m) := hD0.self
  have hAb : ∀ q, va_A (cellsOf lay (adb bs) cA m) (bs + lay.length) q → bs ≤ q := by
    intro q hq
    rcases hq with ⟨k, x, hq⟩ | hq
    · have := (cells_adr hq).1
      show bs ≤ q
      rw [show q = adb bs k from this]
      exact Nat.le_add_right _ _
    · exact Nat.le_trans (Nat.le_add_right _ _) hq
  rw [lg_entry_eq]
  refine h p l e _ s mt _ below meth c s.heap [] 0 0 G cA (va_A (cellsOf lay (adb bs) cA m) (bs + lay.length)) _ _ ⟨⟨B.exec, B.bytes, hml, by rw [ho]; exact findClass_of_methodNamed B.named, fun w hw => hts w (List.mem_cons_of_mem _ hw)⟩, hK, fun q hq => Or.inr (by rw [← hsz]; exact hq), ⟨⟨⟨by rw [hsz]; rfl, hAb⟩, trivial⟩, fun h => ((name_of_methodNamed B.named B.method).1).trans h, hN⟩, ⟨Nat.le_refl _, Nat.le_refl _, by show 0 + kc ≤ kc; omega, by show 0 + ks ≤ ks; omega⟩, ?_⟩ hP hD va_S.rf (lv_entry args hng)
  intro v w H' locs' pc' ls' cs' sl' hr hc1 hc2 hq hP' hD' hS'
  obtain ⟨rfl, rfl⟩ := hq
  rcases hr with ⟨-, -, hd⟩ | ⟨x, ty, h1, -⟩ | ⟨x, h1, -⟩
  · refine W.widen (k := kc) (n := ks) hc1 hc2 ?_
    exact W.vret B.exec B.bytes (B.returns.trans hret) (fun t ht hW => ⟨⟨rfl, by rw [ht]; exact hP', hD'⟩, hS'.F ht⟩) hS'.2.2 hd B.notSynchronized
  · cases h1
  · cases h1
def CallI (own : String) (idx : Nat) (μ' : MI) (n : Nat) : Prop := Cond.methodLink own idx μ'.1 ∈ TW ∧ Cond.instanceMethod μ'.1 ∈ TW ∧ Cond.initialized μ'.1.cls ∈ TW ∧ Cond.code μ'.1 μ'.2.1 μ'.2.2.1 none ∈ TW ∧ (μ'.1.cls ≠ "java/lang/invoke/MethodHandle" ∧ μ'.1.cls ≠ "java/lang/invoke/VarHandle" ∧ (parseMethodDescriptor μ'.1.desc).map (fun d => d.parameters.length) = some n) ∧ μ'.2.2.1 ≤ 22 ∧ μ'.1.name = "<init>" ∧ μ'.2.2.2.2 = none
def CallIN (own : String) (idx : Nat) (host : String) (μ' : MI) (n : Nat) : Prop := (own, idx, μ'.1, host) ∈ NW ∧ Cond.instanceMethod μ'.1 ∈ TW ∧ Cond.initialized μ'.1.cls ∈ TW ∧ Cond.code μ'.1 μ'.2.1 μ'.2.2.1 none ∈ TW ∧ (μ'.1.cls ≠ "java/lang/invoke/MethodHandle" ∧ μ'.1.cls ≠ "java/lang/invoke/VarHandle" ∧ (parseMethodDescriptor μ'.1.desc).map (fun d => d.parameters.length) = some n) ∧ μ'.2.2.1 ≤ 22 ∧ μ'.1.name = "<init>" ∧ μ'.2.2.2.2 = none
theorem aw_runK {bs : Nat} {lay lay' : List Ent} {p : Program} {l : Launch} {e : Env} {R : Room} {s : State} {mt : MethodId} {args : Array Value} {below : List Frame} {meth : Method} {c : Code} {H : Heap} {locs : List Loc} {cs sl kc ks : Nat} {G : va_G} {cA : Nat → ClassId} {A : Nat → Prop} {m m' : Wm} {Qz : State → Prop} {pc : Nat} {ls : Array Slot} {st0 rest : List Value} {a : Array Value}
    (hr : va_Run p l e R s mt args below meth c H locs cs sl kc ks (F0 mt pc ls st0) rest (QK bs lay' G cA (va_A (cellsOf lay (adb bs) cA m) (bs + lay.length)) m' a) (va_A (cellsOf lay (adb bs) cA m) (bs + lay.length))) (hz : H.size = bs + lay.length) (hD : va_D A (cellsOf lay (adb bs) cA m)) (hS : va_S A s.heap H locs) (hA : ∀ q, s.heap.size ≤ q → A q)
    (kk : ∀ (H1 : Heap) (locs1 : List Loc), va_P G vwCl (cellsOf lay' (adb bs) cA m') H1 → va_D A (cellsOf lay' (adb bs) cA m') → va_S A s.heap H1 locs1 → W p l e R s mt args below meth c H1 locs1 (cs + kc) (sl + ks) Qz (F0 mt (pc + 3) ls rest)) : W p l e R s mt args below meth c H locs cs sl Qz (F0 mt pc ls st0) := by
  intro T hT X
  obtain ⟨v, st₀, t, T', L, h0, X', hL, e1, e2, ⟨⟨hv, hp, hd⟩, hz', hk⟩, st⟩ := hr T hT X
  cases hv
  rw [h0] at hz' hk
  have hAA : ∀ q, va_A (cellsOf lay (adb bs) cA m) (bs + lay.length) q → A q := by
    intro q hq
    rcases hq with ⟨k, x, hq⟩ | hq
    · exact hD.2 k (q, x) hq
    · exact hA q (Nat.le_trans hS.1 (by rw [hz]; exact hq))
  obtain ⟨t2, a1, b1⟩ := kk T'.heap (locs ++ L) (by rw [e1]; exact hp) (hd.weaken (fun k q hq h => hAA _ h))
    ⟨Nat.le_trans hS.1 (by rw [e1]; exact hz'), fun q h1 h2 => by rw [e1, hk q (Nat.lt_of_lt_of_le h1 hS.1) (fun z => h2 (hAA q z))]; exact hS.2.1 q h1 h2, fun q hq => by
      rcases List.mem_append.mp hq with h | h
      · exact hS.2.2 q h
      · exact hAA _ (hL q h)⟩ T' rfl X'
  exact ⟨t2, st t2 a1, b1⟩
/-- the heap's size, by the count -/
theorem size_of {p : Program} {l : Launch} {e : Env} {R : Room} {s : State} {mt : MethodId} {args : Array Value} {below : List Frame} {meth : Method} {c : Code} {T : State} {locs : List Loc} {cs sl : Nat} (X : Stand p l e R s mt args below meth c T locs cs sl) : T.heap.size ≤ s.heap.size + cs := X.same.2.2.1
theorem size_at {lay : List Ent} {bs n : Nat} {cA : Nat → ClassId} {m : Wm} {G : va_G} {H : Heap} (hn : lay.length = n) (h0 : 0 < n) (hP : va_P G vwCl (cellsOf lay (adb bs) cA m) H) : bs + n ≤ H.size := by
  have hlt : n - 1 < lay.length := by omega
  have := (hP (n - 1) _ (cells_at (List.getElem?_eq_getElem hlt))).lt
  have h2 : bs + (n - 1) < H.size := this
  omega
section AWK
variable {X : Launch → State → (Nat → Prop) → Prop} {lay lay1 lq : List Ent} {bs n kc ks kc' ks' : Nat} {μ : MI} {d : Nat} {Q : Option Value → Wm → Prop} {pc : Nat} {L : List (Nat × Value)} {rest st : List Value} {m m1 : Wm}
def NewOK (own : String) (idx : Nat) (C' : String) (T : u_T) (ty0 : Nat → FieldType) (N ci : Nat) (cs : List Nat) : Prop := (∀ w ∈ u_ws C' T N, w ∈ TW) ∧ (∀ k, k < N → parseFieldDescriptor (T k).2.2.1 = some (ty0 k)) ∧ Cond.classLink own idx C' ∈ TW ∧ Cond.instantiable C' N ∈ TW ∧ Cond.initialized C' ∈ TW ∧ vwCl[ci]? = some (C', T, N) ∧ cs.length = N ∧ (∀ c ∈ cs, c ≤ 2) ∧ ∀ j, j < N → defaultValue (ty0 j) = dfl (cs.getD j 0)
theorem aw_new {idx ci N : Nat} {C' : String} {T : u_T} {ty0 : Nat → FieldType} {cs' : List Nat} (hd : decode μ.2.1 pc = .ok (.new idx, 3)) (hn : lay.length = n) (hN : NewOK μ.2.2.2.1 idx C' T ty0 N ci cs')
    (k : AWl (ps lay (.inl (ci, cs'))) (adb bs) (EK X bs (n + 1) kc ks lq) μ d Q (pc + 3) L (.ref (adb bs n) :: rest) (zm m n)) : AWl lay (adb bs) (EK X bs n (kc + 1) (ks + N) lq) μ d Q pc L rest m := by
  intro p l e R s mt args below meth c H locs cs sl G cA A ls Qz C hP hD hS hl
  have hts := C.1.2.2.2.2
  obtain ⟨hr1, hr2, hr3, hr4⟩ := C.2.2.2.2.1
  have hr3 : cs + (kc + 1) ≤ R.cells := hr3
  have hr4 : sl + (ks + N) ≤ R.slots := hr4
  obtain ⟨⟨⟨hz, hA1⟩, hX⟩, hnm, hnw⟩ := C.2.2.2.1
  obtain ⟨n1, n2, n3, n4, n5, n6, n7, n8, n9⟩ := hN
  refine va_new (ci := ci) (fs := fldVs (adb bs) (zm m n) n cs') (C := C') (T := T) (N := N) C.1.1 C.1.2.1 hts n1 ty0 n2 C.1.2.2.2.1 (hts _ n3) (hts _ n4) (hts _ n5) C.2.1 hP hD hS C.2.2.1 n6 (fun j hj => by rw [fld_born n8 (by rw [n7]; exact hj)]; exact n9 j hj) (by omega) (by omega) hd (fun q H1 hP1 hD1 hS1 => ?_)
  intro T1 hT1 X1
  have hs : H1.size ≤ bs + n + 1 := by have := size_of X1; rw [hT1] at this; have hz : s.heap.size + cs = bs + n := hz; omega
  obtain rfl := fresh_at hn hA1 hP1 hD1 hs
  exact k p l e R s mt args below meth c H1 locs (cs + 1) (sl + N) G cA A ls Qz ⟨C.1, C.2.1, C.2.2.1, ⟨⟨⟨by show s.heap.size + (cs + 1) = bs + (n + 1); have hz : s.heap.size + cs = bs + n := hz; omega, hA1⟩, hX⟩, hnm, hnw⟩, ⟨hr1, hr2, by show (cs + 1) + kc ≤ R.cells; omega, by show (sl + N) + ks ≤ R.slots; omega⟩, C.2.2.2.2.2⟩ (cells_push (e := .inl (ci, cs')) hn ▸ hP1) (cells_push (e := .inl (ci, cs')) hn ▸ hD1) hS1 hl T1 hT1 X1
theorem aw_newa0 {v : Int32} {N : Nat} (hd : decode μ.2.1 pc = .ok (.newarray .int, 2)) (hn : lay.length = n) (hw : Cond.arrayClass .int ∈ TW) (hv : ¬ v < 0) (hN : v.toNatClampNeg = N) (hb : N * componentBytes .int ≤ 536870912)
    (k : AWl (ps lay (.inr (0, N))) (adb bs) (EK X bs (n + 1) kc ks lq) μ d Q (pc + 2) L (.ref (adb bs n) :: rest) (zm m n)) : AWl lay (adb bs) (EK X bs n (kc + 1) (ks + N) lq) μ d Q pc L (.int v :: rest) m := by
  intro p l e R s mt args below meth c H locs cs sl G cA A ls Qz C hP hD hS hl
  have hts := C.1.2.2.2.2
  obtain ⟨hr1, hr2, hr3, hr4⟩ := C.2.2.2.2.1
  have hr3 : cs + (kc + 1) ≤ R.cells := hr3
  have hr4 : sl + (ks + N) ≤ R.slots := hr4
  obtain ⟨⟨⟨hz, hA1⟩, hX⟩, hnm, hnw⟩ := C.2.2.2.1
  refine va_newa (atype := .int) (ty := .int) (a0 := (N, .inl (fun _ => 0))) C.1.1 C.1.2.1 (hts _ hw) rfl C.2.1 hP hD hS C.2.2.1 (fun cA' => rfl) hv hN hb (by omega) (by omega) hd (fun q cA' H1 hK1 hP1 hD1 hS1 => ?_)
  intro T1 hT1 X1
  have hs : H1.size ≤ bs + n + 1 := by have := size_of X1; rw [hT1] at this; have hz : s.heap.size + cs = bs + n := hz; omega
  obtain rfl := fresh_at hn hA1 hP1 hD1 hs
  obtain rfl := cA_eq (t := 0) hK1 rfl
  have hx : (Sum.inl (cA 0, (N, .inl (fun _ => 0))) : va_E) = cellE (adb bs) cA (zm m n) n (.inr (0, N)) := by
    simp [cellE, arrV', zm]
  rw [hx] at hP1 hD1
  exact k p l e R s mt args below meth c H1 locs (cs + 1) (sl + N) G cA A ls Qz ⟨C.1, C.2.1, C.2.2.1, ⟨⟨⟨by show s.heap.size + (cs + 1) = bs + (n + 1); have hz : s.heap.size + cs = bs + n := hz; omega, hA1⟩, hX⟩, hnm, hnw⟩, ⟨hr1, hr2, by show (cs + 1) + kc ≤ R.cells; omega, by show (sl + N) + ks ≤ R.slots; omega⟩, C.2.2.2.2.2⟩ (cells_push (e := .inr (0, N)) hn ▸ hP1) (cells_push (e := .inr (0, N)) hn ▸ hD1) hS1 hl T1 hT1 X1
theorem aw_newa1 {v : Int32} {N : Nat} (hd : decode μ.2.1 pc = .ok (.newarray .byte, 2)) (hn : lay.length = n) (hw : Cond.arrayClass .byte ∈ TW) (hv : ¬ v < 0) (hN : v.toNatClampNeg = N) (hb : N * componentBytes .byte ≤ 536870912)
    (k : AWl (ps lay (.inr (1, N))) (adb bs) (EK X bs (n + 1) kc ks lq) μ d Q (pc + 2) L (.ref (adb bs n) :: rest) (zm m n)) : AWl lay (adb bs) (EK X bs n (kc + 1) (ks + N) lq) μ d Q pc L (.int v :: rest) m := by
  intro p l e R s mt args below meth c H locs cs sl G cA A ls Qz C hP hD hS hl
  have hts := C.1.2.2.2.2
  obtain ⟨hr1, hr2, hr3, hr4⟩ := C.2.2.2.2.1
  have hr3 : cs + (kc + 1) ≤ R.cells := hr3
  have hr4 : sl + (ks + N) ≤ R.slots := hr4
  obtain ⟨⟨⟨hz, hA1⟩, hX⟩, hnm, hnw⟩ := C.2.2.2.1
  refine va_newa (atype := .byte) (ty := .byte) (a0 := (N, .inl (fun _ => 0))) C.1.1 C.1.2.1 (hts _ hw) rfl C.2.1 hP hD hS C.2.2.1 (fun cA' => rfl) hv hN hb (by omega) (by omega) hd (fun q cA' H1 hK1 hP1 hD1 hS1 => ?_)
  intro T1 hT1 X1
  have hs : H1.size ≤ bs + n + 1 := by have := size_of X1; rw [hT1] at this; have hz : s.heap.size + cs = bs + n := hz; omega
  obtain rfl := fresh_at hn hA1 hP1 hD1 hs
  obtain rfl := cA_eq (t := 1) hK1 rfl
  have hx : (Sum.inl (cA 1, (N, .inl (fun _ => 0))) : va_E) = cellE (adb bs) cA (zm m n) n (.inr (1, N)) := by
    simp [cellE, arrV', zm]
  rw [hx] at hP1 hD1
  exact k p l e R s mt args below meth c H1 locs (cs + 1) (sl + N) G cA A ls Qz ⟨C.1, C.2.1, C.2.2.1, ⟨⟨⟨by show s.heap.size + (cs + 1) = bs + (n + 1); have hz : s.heap.size + cs = bs + n := hz; omega, hA1⟩, hX⟩, hnm, hnw⟩, ⟨hr1, hr2, by show (cs + 1) + kc ≤ R.cells; omega, by show (sl + N) + ks ≤ R.slots; omega⟩, C.2.2.2.2.2⟩ (cells_push (e := .inr (1, N)) hn ▸ hP1) (cells_push (e := .inr (1, N)) hn ▸ hD1) hS1 hl T1 hT1 X1
theorem aw_newa2 {v : Int32} {N : Nat} (hd : decode μ.2.1 pc = .ok (.newarray .char, 2)) (hn : lay.length = n) (hw : Cond.arrayClass .char ∈ TW) (hv : ¬ v < 0) (hN : v.toNatClampNeg = N) (hb : N * componentBytes .char ≤ 536870912)
    (k : AWl (ps lay (.inr (2, N))) (adb bs) (EK X bs (n + 1) kc ks lq) μ d Q (pc + 2) L (.ref (adb bs n) :: rest) (zm m n)) : AWl lay (adb bs) (EK X bs n (kc + 1) (ks + N) lq) μ d Q pc L (.int v :: rest) m := by
  intro p l e R s mt args below meth c H locs cs sl G cA A ls Qz C hP hD hS hl
  have hts := C.1.2.2.2.2
  obtain ⟨hr1, hr2, hr3, hr4⟩ := C.2.2.2.2.1
  have hr3 : cs + (kc + 1) ≤ R.cells := hr3
  have hr4 : sl + (ks + N) ≤ R.slots := hr4
  obtain ⟨⟨⟨hz, hA1⟩, hX⟩, hnm, hnw⟩ := C.2.2.2.1
  refine va_newa (atype := .char) (ty := .char) (a0 := (N, .inl (fun _ => 0))) C.1.1 C.1.2.1 (hts _ hw) rfl C.2.1 hP hD hS C.2.2.1 (fun cA' => rfl) hv hN hb (by omega) (by omega) hd (fun q cA' H1 hK1 hP1 hD1 hS1 => ?_)
  intro T1 hT1 X1
  have hs : H1.size ≤ bs + n + 1 := by have := size_of X1; rw [hT1] at this; have hz : s.heap.size + cs = bs + n := hz; omega
  obtain rfl := fresh_at hn hA1 hP1 hD1 hs
  obtain rfl := cA_eq (t := 2) hK1 rfl
  have hx : (Sum.inl (cA 2, (N, .inl (fun _ => 0))) : va_E) = cellE (adb bs) cA (zm m n) n (.inr (2, N)) := by
    simp [cellE, arrV', zm]
  rw [hx] at hP1 hD1
  exact k p l e R s mt args below meth c H1 locs (cs + 1) (sl + N) G cA A ls Qz ⟨C.1, C.2.1, C.2.2.1, ⟨⟨⟨by show s.heap.size + (cs + 1) = bs + (n + 1); have hz : s.heap.size + cs = bs + n := hz; omega, hA1⟩, hX⟩, hnm, hnw⟩, ⟨hr1, hr2, by show (cs + 1) + kc ≤ R.cells; omega, by show (sl + N) + ks ≤ R.slots; omega⟩, C.2.2.2.2.2⟩ (cells_push (e := .inr (2, N)) hn ▸ hP1) (cells_push (e := .inr (2, N)) hn ▸ hD1) hS1 hl T1 hT1 X1
theorem aw_newa3 {v : Int32} {N : Nat} (hd : decode μ.2.1 pc = .ok (.newarray .boolean, 2)) (hn : lay.length = n) (hw : Cond.arrayClass .boolean ∈ TW) (hv : ¬ v < 0) (hN : v.toNatClampNeg = N) (hb : N * componentBytes .boolean ≤ 536870912)
    (k : AWl (ps lay (.inr (3, N))) (adb bs) (EK X bs (n + 1) kc ks lq) μ d Q (pc + 2) L (.ref (adb bs n) :: rest) (zm m n)) : AWl lay (adb bs) (EK X bs n (kc + 1) (ks + N) lq) μ d Q pc L (.int v :: rest) m := by
  intro p l e R s mt args below meth c H locs cs sl G cA A ls Qz C hP hD hS hl
  have hts := C.1.2.2.2.2
  obtain ⟨hr1, hr2, hr3, hr4⟩ := C.2.2.2.2.1
  have hr3 : cs + (kc + 1) ≤ R.cells := hr3
  have hr4 : sl + (ks + N) ≤ R.slots := hr4
  obtain ⟨⟨⟨hz, hA1⟩, hX⟩, hnm, hnw⟩ := C.2.2.2.1
  refine va_newa (atype := .boolean) (ty := .boolean) (a0 := (N, .inl (fun _ => 0))) C.1.1 C.1.2.1 (hts _ hw) rfl C.2.1 hP hD hS C.2.2.1 (fun cA' => rfl) hv hN hb (by omega) (by omega) hd (fun q cA' H1 hK1 hP1 hD1 hS1 => ?_)
  intro T1 hT1 X1
  have hs : H1.size ≤ bs + n + 1 := by have := size_of X1; rw [hT1] at this; have hz : s.heap.size + cs = bs + n := hz; omega
  obtain rfl := fresh_at hn hA1 hP1 hD1 hs
  obtain rfl := cA_eq (t := 3) hK1 rfl
  have hx : (Sum.inl (cA 3, (N, .inl (fun _ => 0))) : va_E) = cellE (adb bs) cA (zm m n) n (.inr (3, N)) := by
    simp [cellE, arrV', zm]
  rw [hx] at hP1 hD1
  exact k p l e R s mt args below meth c H1 locs (cs + 1) (sl + N) G cA A ls Qz ⟨C.1, C.2.1, C.2.2.1, ⟨⟨⟨by show s.heap.size + (cs + 1) = bs + (n + 1); have hz : s.heap.size + cs = bs + n := hz; omega, hA1⟩, hX⟩, hnm, hnw⟩, ⟨hr1, hr2, by show (cs + 1) + kc ≤ R.cells; omega, by show (sl + N) + ks ≤ R.slots; omega⟩, C.2.2.2.2.2⟩ (cells_push (e := .inr (3, N)) hn ▸ hP1) (cells_push (e := .inr (3, N)) hn ▸ hD1) hS1 hl T1 hT1 X1
theorem aw_newa4 {v : Int32} {N : Nat} (hd : decode μ.2.1 pc = .ok (.newarray .long, 2)) (hn : lay.length = n) (hw : Cond.arrayClass .long ∈ TW) (hv : ¬ v < 0) (hN : v.toNatClampNeg = N) (hb : N * componentBytes .long ≤ 536870912)
    (k : AWl (ps lay (.inr (4, N))) (adb bs) (EK X bs (n + 1) kc ks lq) μ d Q (pc + 2) L (.ref (adb bs n) :: rest) (zm m n)) : AWl lay (adb bs) (EK X bs n (kc + 1) (ks + N) lq) μ d Q pc L (.int v :: rest) m := by
  intro p l e R s mt args below meth c H locs cs sl G cA A ls Qz C hP hD hS hl
  have hts := C.1.2.2.2.2
  obtain ⟨hr1, hr2, hr3, hr4⟩ := C.2.2.2.2.1
  have hr3 : cs + (kc + 1) ≤ R.cells := hr3
  have hr4 : sl + (ks + N) ≤ R.slots := hr4
  obtain ⟨⟨⟨hz, hA1⟩, hX⟩, hnm, hnw⟩ := C.2.2.2.1
  refine va_newa (atype := .long) (ty := .long) (a0 := (N, .inr (.inl (fun _ => 0)))) C.1.1 C.1.2.1 (hts _ hw) rfl C.2.1 hP hD hS C.2.2.1 (fun cA' => rfl) hv hN hb (by omega) (by omega) hd (fun q cA' H1 hK1 hP1 hD1 hS1 => ?_)
  intro T1 hT1 X1
  have hs : H1.size ≤ bs + n + 1 := by have := size_of X1; rw [hT1] at this; have hz : s.heap.size + cs = bs + n := hz; omega
  obtain rfl := fresh_at hn hA1 hP1 hD1 hs
  obtain rfl := cA_eq (t := 4) hK1 rfl
  have hx : (Sum.inl (cA 4, (N, .inr (.inl (fun _ => 0)))) : va_E) = cellE (adb bs) cA (zm m n) n (.inr (4, N)) := by
    simp [cellE, arrV', zm]
  rw [hx] at hP1 hD1
  exact k p l e R s mt args below meth c H1 locs (cs + 1) (sl + N) G cA A ls Qz ⟨C.1, C.2.1, C.2.2.1, ⟨⟨⟨by show s.heap.size + (cs + 1) = bs + (n + 1); have hz : s.heap.size + cs = bs + n := hz; omega, hA1⟩, hX⟩, hnm, hnw⟩, ⟨hr1, hr2, by show (cs + 1) + kc ≤ R.cells; omega, by show (sl + N) + ks ≤ R.slots; omega⟩, C.2.2.2.2.2⟩ (cells_push (e := .inr (4, N)) hn ▸ hP1) (cells_push (e := .inr (4, N)) hn ▸ hD1) hS1 hl T1 hT1 X1
theorem aw_newq5 {idx : Nat} {v : Int32} {N : Nat} (hd : decode μ.2.1 pc = .ok (.anewarray idx, 3)) (hn : lay.length = n) (hw : Cond.classLink μ.2.2.2.1 idx RX0 ∈ TW) (hv : ¬ v < 0) (hN : v.toNatClampNeg = N) (hb : N * 4 ≤ 536870912)
    (k : AWl (ps lay (.inr (5, N))) (adb bs) (EK X bs (n + 1) kc ks lq) μ d Q (pc + 3) L (.ref (adb bs n) :: rest) (zm m n)) : AWl lay (adb bs) (EK X bs n (kc + 1) (ks + N) lq) μ d Q pc L (.int v :: rest) m := by
  intro p l e R s mt args below meth c H locs cs sl G cA A ls Qz C hP hD hS hl
  have hts := C.1.2.2.2.2
  obtain ⟨hr1, hr2, hr3, hr4⟩ := C.2.2.2.2.1
  have hr3 : cs + (kc + 1) ≤ R.cells := hr3
  have hr4 : sl + (ks + N) ≤ R.slots := hr4
  obtain ⟨⟨⟨hz, hA1⟩, hX⟩, hnm, hnw⟩ := C.2.2.2.1
  refine va_newq C.1.1 C.1.2.1 C.1.2.2.2.1 (hts _ hw) hnw.2.1 C.2.1 hP hD hS C.2.2.1 hv hN hb (by omega) (by omega) hd (fun q cA' H1 hK1 hP1 hD1 hS1 => ?_)
  intro T1 hT1 X1
  have hs : H1.size ≤ bs + n + 1 := by have := size_of X1; rw [hT1] at this; have hz : s.heap.size + cs = bs + n := hz; omega
  obtain rfl := fresh_at hn hA1 hP1 hD1 hs
  obtain rfl := cA_eq (t := 5) hK1 rfl
  have hx : (Sum.inl (cA 5, (N, .inr (.inr (.inr (.inr (fun _ => none)))))) : va_E) = cellE (adb bs) cA (zm m n) n (.inr (5, N)) := by
    simp [cellE, arrV', zm]
  rw [hx] at hP1 hD1
  exact k p l e R s mt args below meth c H1 locs (cs + 1) (sl + N) G cA A ls Qz ⟨C.1, C.2.1, C.2.2.1, ⟨⟨⟨by show s.heap.size + (cs + 1) = bs + (n + 1); have hz : s.heap.size + cs = bs + n := hz; omega, hA1⟩, hX⟩, hnm, hnw⟩, ⟨hr1, hr2, by show (cs + 1) + kc ≤ R.cells; omega, by show (sl + N) + ks ≤ R.slots; omega⟩, C.2.2.2.2.2⟩ (cells_push (e := .inr (5, N)) hn ▸ hP1) (cells_push (e := .inr (5, N)) hn ▸ hD1) hS1 hl T1 hT1 X1
theorem aw_aastore5 {ad : Nat → Nat} {E : EB} {a N b : Nat} {i : Int32} {cs' : List Nat} (hd : decode μ.2.1 pc = .ok (.aastore, 1)) (he : lay[a]? = some (.inr (5, N))) (hb : lay[b]? = some (.inl (0, cs'))) (hi : vp_in i N) (k : AWl lay ad E μ d Q (pc + 1) L rest (uR m a i.toNatClampNeg (some b))) : AWl lay ad E μ d Q pc L (.ref (ad b) :: .int i :: .ref (ad a) :: rest) m := fun p l e R s mt args below meth c H locs cs sl G cA A ls Qz C hP hD hS hl => va_astq (r := (RX0, TX0, 5)) C.1.1 C.1.2.1 C.2.1 hP hD hS a 5 b 0 (arR_at he (by decide)) rfl (ob_at hb) rfl hi hd (fun H1 locs1 hP1 hD1 hS1 => k p l e R s mt args below meth c H1 locs1 cs sl G cA A ls Qz C (set_arR he (by decide) ▸ hP1) (cells_D hD) hS1 hl)
theorem aw_newq6 {idx : Nat} {v : Int32} {N : Nat} (hd : decode μ.2.1 pc = .ok (.anewarray idx, 3)) (hn : lay.length = n) (hw : Cond.classLink μ.2.2.2.1 idx RX8 ∈ TW) (hv : ¬ v < 0) (hN : v.toNatClampNeg = N) (hb : N * 4 ≤ 536870912)
    (k : AWl (ps lay (.inr (6, N))) (adb bs) (EK X bs (n + 1) kc ks lq) μ d Q (pc + 3) L (.ref (adb bs n) :: rest) (zm m n)) : AWl lay (adb bs) (EK X bs n (kc + 1) (ks + N) lq) μ d Q pc L (.int v :: rest) m := by
  intro p l e R s mt args below meth c H locs cs sl G cA A ls Qz C hP hD hS hl
  have hts := C.1.2.2.2.2
  obtain ⟨hr1, hr2, hr3, hr4⟩ := C.2.2.2.2.1
  have hr3 : cs + (kc + 1) ≤ R.cells := hr3
  have hr4 : sl + (ks + N) ≤ R.slots := hr4
  obtain ⟨⟨⟨hz, hA1⟩, hX⟩, hnm, hnw⟩ := C.2.2.2.1
  refine va_newq C.1.1 C.1.2.1 C.1.2.2.2.1 (hts _ hw) hnw.2.2 C.2.1 hP hD hS C.2.2.1 hv hN hb (by omega) (by omega) hd (fun q cA' H1 hK1 hP1 hD1 hS1 => ?_)
  intro T1 hT1 X1
  have hs : H1.size ≤ bs + n + 1 := by have := size_of X1; rw [hT1] at this; have hz : s.heap.size + cs = bs + n := hz; omega
  obtain rfl := fresh_at hn hA1 hP1 hD1 hs
  obtain rfl := cA_eq (t := 6) hK1 rfl
  have hx : (Sum.inl (cA 6, (N, .inr (.inr (.inr (.inr (fun _ => none)))))) : va_E) = cellE (adb bs) cA (zm m n) n (.inr (6, N)) := by
    simp [cellE, arrV', zm]
  rw [hx] at hP1 hD1
  exact k p l e R s mt args below meth c H1 locs (cs + 1) (sl + N) G cA A ls Qz ⟨C.1, C.2.1, C.2.2.1, ⟨⟨⟨by show s.heap.size + (cs + 1) = bs + (n + 1); have hz : s.heap.size + cs = bs + n := hz; omega, hA1⟩, hX⟩, hnm, hnw⟩, ⟨hr1, hr2, by show (cs + 1) + kc ≤ R.cells; omega, by show (sl + N) + ks ≤ R.slots; omega⟩, C.2.2.2.2.2⟩ (cells_push (e := .inr (6, N)) hn ▸ hP1) (cells_push (e := .inr (6, N)) hn ▸ hD1) hS1 hl T1 hT1 X1
theorem aw_aastore6 {ad : Nat → Nat} {E : EB} {a N b : Nat} {i : Int32} {cs' : List Nat} (hd : decode μ.2.1 pc = .ok (.aastore, 1)) (he : lay[a]? = some (.inr (6, N))) (hb : lay[b]? = some (.inl (8, cs'))) (hi : vp_in i N) (k : AWl lay ad E μ d Q (pc + 1) L rest (uR m a i.toNatClampNeg (some b))) : AWl lay ad E μ d Q pc L (.ref (ad b) :: .int i :: .ref (ad a) :: rest) m := fun p l e R s mt args below meth c H locs cs sl G cA A ls Qz C hP hD hS hl => va_astq (r := (RX8, TX8, 5)) C.1.1 C.1.2.1 C.2.1 hP hD hS a 6 b 8 (arR_at he (by decide)) rfl (ob_at hb) rfl hi hd (fun H1 locs1 hP1 hD1 hS1 => k p l e R s mt args below meth c H1 locs1 cs sl G cA A ls Qz C (set_arR he (by decide) ▸ hP1) (cells_D hD) hS1 hl)
theorem aw_putFR {ad : Nat → Nat} {E : EB} {C' : String} {T : u_T} {ty0 : Nat → FieldType} {N ci k idx a : Nat} {cs' : List Nat} {x : Nat} (hd : decode μ.2.1 pc = .ok (.putfield idx, 3)) (hf : FldOK μ.2.2.2.1 C' T N ci k idx) (hcl : ClsOK C' T ty0 N) (hi : μ.1.name = "<init>") (ho : C' = μ.2.2.2.1) (hnf : (T k).2.2.2 = true) (he : lay[a]? = some (.inl (ci, cs'))) (hc : cs'[k]? = some 2) (hn : narrow (ty0 k) (.ref (ad x)) = .ref (ad x)) (hfit : fits (ty0 k) (.ref (ad x)) = true) (k' : AWl lay ad E μ d Q (pc + 3) L rest (uR m a k (some x))) : AWl lay ad E μ d Q pc L (.ref (ad x) :: .ref (ad a) :: rest) m := fun p l e R s mt args below meth c H locs cs sl G cA A ls Qz C hP hD hS hl => va_putF (ty := ty0 k) C.1.1 C.1.2.1 C.1.2.2.2.2 hf.1 ty0 hcl.1 hcl.2 C.1.2.2.2.1 C.2.1 hP hD hS a (ob_at he) hf.2.1 k hf.2.2.1 (C.1.2.2.2.2 _ hf.2.2.2.2) (fun x h => by rw [hf.2.2.2.1] at h; exact h) hnf (C.2.2.2.1.2.1 hi) (hf.2.2.2.1.trans ho) (hcl.1 k hf.2.2.1) hn hfit (by rw [fldVs_len]; exact (List.getElem?_eq_some_iff.mp hc).1) hd (fun H1 locs1 hP1 hD1 hS1 => k' p l e R s mt args below meth c H1 locs1 cs sl G cA A ls Qz C ((set_ref he hc) ▸ hP1) (cells_D hD) hS1 hl)
def ObjOK (own : String) (idx : Nat) : Prop := Cond.methodLink own idx Lib.objectInit ∈ TW ∧ Cond.instanceMethod Lib.objectInit ∈ TW ∧ Cond.code Lib.objectInit ⟨#[0xb1]⟩ 1 none ∈ TW
theorem aw_objInit {ad : Nat → Nat} {E : EB} {idx a : Nat} (hd : decode μ.2.1 pc = .ok (.invokespecial idx, 3)) (cw : ObjOK μ.2.2.2.1 idx) (hW : (rest.map fun v => v.category).sum ≤ 8) (k : AWl lay ad E μ (d + 1) Q (pc + 3) L rest m) : AWl lay ad E μ (d + 1) Q pc L (.ref a :: rest) m := by
  intro p l e R s mt args below meth c H locs cs sl G cA A ls Qz C hP hD hS hl
  have hts := C.1.2.2.2.2
  obtain ⟨hr1, hr2, hr3, hr4⟩ := C.2.2.2.2.1
  refine W.objInit C.1.1 C.1.2.1 C.1.2.2.2.1 (hts _ cw.1) (hts _ cw.2.1) (hts _ cw.2.2) rfl (hl.1.trans C.1.2.2.1.symm) rfl hd (by omega) (by have := lv_room (pc := pc) (ls := ls) (rest := .ref a :: rest) (m := mt) hW; omega) ?_
  exact W.eq (g2 := F0 mt (pc + 3) ls rest) rfl (k p l e R s mt args below meth c H locs cs sl G cA A ls Qz C hP hD hS hl)
theorem aw_callI {idx b : Nat} {μ' : MI} (As : List Value) (hd : decode μ.2.1 pc = .ok (.invokespecial idx, 3)) (hn : lay.length = n) (h0 : 0 < n) (hn1 : lay1.length = n + kc') (cw : CallI μ.2.2.2.1 idx μ' As.length) (hst : st = As.reverse ++ .ref b :: rest) (hM : CtK bs lay lay1 μ' d kc' ks' (.ref b :: As) m m1) (hW : (rest.map fun v => v.category).sum ≤ 8)
    (k : AWl lay1 (adb bs) (EK X bs (n + kc') kc ks lq) μ (d + 1) Q (pc + 3) L rest m1) : AWl lay (adb bs) (EK X bs n (kc + kc') (ks + ks') lq) μ (d + 1) Q pc L st m := by
  subst hst
  subst hn
  intro p l e R s mt args below meth c H locs cs sl G cA A ls Qz C hP hD hS hl
  obtain ⟨w1, w2, w4, w5, w6, w7, w8, w9⟩ := cw
  have hts := C.1.2.2.2.2
  obtain ⟨hr1, hr2, hr3, hr4⟩ := C.2.2.2.2.1
  have hr3 : cs + (kc + kc') ≤ R.cells := hr3
  have hr4 : sl + (ks + ks') ≤ R.slots := hr4
  obtain ⟨⟨⟨hz, hA1⟩, hX⟩, hnm, hnw⟩ := C.2.2.2.1
  have hz : s.heap.size + cs = bs + lay.length := hz
  intro T hT XX
  have hs : H.size = bs + lay.length := by
    have h1 := size_of XX
    rw [hT] at h1
    have h2 := size_at rfl h0 hP
    omega
  have hM := hM l G cA
  rw [w9] at hM
  refine (aw_runK (va_runI (As := As) (rest := rest) (n := As.length) C.1 hM ⟨callB_of As.length hts (good_tbl w5) rfl rfl rfl (hts _ w4) (hts _ w1) w6 ⟨hr1, by show 8 + (μ'.2.2.1 + 11) + 41 * d ≤ R.locals; omega⟩, w8, hts _ w2⟩ ⟨PCt.blind, fun U hU hW' => ⟨rfl, by rw [hU]; exact hs, by rw [hU]; exact hP, va_K.moved hW'.alike C.2.1, hD.weaken (fun _ _ _ _ => trivial), NWs.warm hW' hnw⟩⟩ rfl rfl hl.1 rfl (lv_room hW) hd ⟨by omega, by omega⟩) hs hD hS C.2.2.1 (fun H1 locs1 hP1 hD1 hS1 => k p l e R s mt args below meth c H1 locs1 (cs + kc') (sl + ks') G cA A ls Qz ⟨C.1, C.2.1, C.2.2.1, ⟨⟨⟨by show s.heap.size + (cs + kc') = bs + (lay.length + kc'); omega, hA1⟩, hX⟩, hnm, hnw⟩, ⟨hr1, hr2, by show (cs + kc') + kc ≤ R.cells; omega, by show (sl + ks') + ks ≤ R.slots; omega⟩, C.2.2.2.2.2⟩ hP1 hD1 hS1 hl)) T hT XX
theorem aw_callIN {idx b : Nat} {host : String} {μ' : MI} (As : List Value) (hd : decode μ.2.1 pc = .ok (.invokespecial idx, 3)) (hn : lay.length = n) (h0 : 0 < n) (hn1 : lay1.length = n + kc') (cw : CallIN μ.2.2.2.1 idx host μ' As.length) (hst : st = As.reverse ++ .ref b :: rest) (hM : CtK bs lay lay1 μ' d kc' ks' (.ref b :: As) m m1) (hW : (rest.map fun v => v.category).sum ≤ 8)
    (k : AWl lay1 (adb bs) (EK X bs (n + kc') kc ks lq) μ (d + 1) Q (pc + 3) L rest m1) : AWl lay (adb bs) (EK X bs n (kc + kc') (ks + ks') lq) μ (d + 1) Q pc L st m := by
  subst hst
  subst hn
  intro p l e R s mt args below meth c H locs cs sl G cA A ls Qz C hP hD hS hl
  obtain ⟨w1, w2, w4, w5, w6, w7, w8, w9⟩ := cw
  have hts := C.1.2.2.2.2
  obtain ⟨hr1, hr2, hr3, hr4⟩ := C.2.2.2.2.1
  have hr3 : cs + (kc + kc') ≤ R.cells := hr3
  have hr4 : sl + (ks + ks') ≤ R.slots := hr4
  obtain ⟨⟨⟨hz, hA1⟩, hX⟩, hnm, hnw⟩ := C.2.2.2.1
  have hz : s.heap.size + cs = bs + lay.length := hz
  intro T hT XX
  have hs : H.size = bs + lay.length := by
    have h1 := size_of XX
    rw [hT] at h1
    have h2 := size_at rfl h0 hP
    omega
  have hM := hM l G cA
  rw [w9] at hM
  refine (aw_runK (va_runIN (As := As) (rest := rest) (n := As.length) (host := host) C.1 hM ⟨⟨⟨rfl, rfl, hr1, by show 8 + (μ'.2.2.1 + 11) + 41 * d ≤ R.locals; omega, pay_in hts (good_tbl w5), List.mem_cons_self⟩, hts _ w5, hts _ w4, ⟨w6.1, w6.2.1⟩, fun sig h => by have h2 := w6.2.2; rw [h] at h2; exact (Option.some.inj h2).symm, va_Nw.use rfl (hnw.1 _ w1)⟩, w8, hts _ w2⟩ ⟨PCt.blind, fun U hU hW' => ⟨rfl, by rw [hU]; exact hs, by rw [hU]; exact hP, va_K.moved hW'.alike C.2.1, hD.weaken (fun _ _ _ _ => trivial), NWs.warm hW' hnw⟩⟩ rfl rfl hl.1 rfl (lv_room hW) hd ⟨by omega, by omega⟩) hs hD hS C.2.2.1 (fun H1 locs1 hP1 hD1 hS1 => k p l e R s mt args below meth c H1 locs1 (cs + kc') (sl + ks') G cA A ls Qz ⟨C.1, C.2.1, C.2.2.1, ⟨⟨⟨by show s.heap.size + (cs + kc') = bs + (lay.length + kc'); omega, hA1⟩, hX⟩, hnm, hnw⟩, ⟨hr1, hr2, by show (cs + kc') + kc ≤ R.cells; omega, by show (sl + ks') + ks ≤ R.slots; omega⟩, C.2.2.2.2.2⟩ hP1 hD1 hS1 hl)) T hT XX
end AWK
theorem w_119 : Cond.methodLink RL 19 yX11_init ∈ TW := tc1 (mq_mem (n := 23) rfl) (by decide +kernel)
theorem w_120 : Cond.instanceMethod yX11_init ∈ TW := tc1 (mq_mem (n := 24) rfl) (by decide +kernel)
theorem w_121 : Cond.code yX11_init cX11_init 3 none ∈ TW := tc1 (mq_mem (n := 25) rfl) (by decide +kernel)
theorem w_122 : Cond.methodLink RX11 3 Lib.objectInit ∈ TW := tc1 (mq_mem (n := 26) rfl) (by decide +kernel)
theorem w_123 : Cond.instanceMethod Lib.objectInit ∈ TW := tc1 (mq_mem (n := 27) rfl) (by decide +kernel)
theorem w_124 : Cond.code Lib.objectInit ⟨#[0xb1]⟩ 1 none ∈ TW := tc1 (mq_mem (n := 28) rfl) (by decide +kernel)
theorem w_128 : Cond.instanceMethod yX10_init ∈ TW := tc1 (mq_mem (n := 32) rfl) (by decide +kernel)
theorem w_129 : Cond.code yX10_init cX10_init 1 none ∈ TW := tc1 (mq_mem (n := 33) rfl) (by decide +kernel)
theorem w_130 : Cond.methodLink RX10 1 Lib.objectInit ∈ TW := tc1 (mq_mem (n := 34) rfl) (by decide +kernel)
theorem w_149 : Cond.instanceMethod yX1_init ∈ TW := tc1 (mq_mem (n := 53) rfl) (by decide +kernel)
theorem w_150 : Cond.code yX1_init cX1_init 1 none ∈ TW := tc1 (mq_mem (n := 54) rfl) (by decide +kernel)
theorem w_151 : Cond.methodLink RX1 3 Lib.objectInit ∈ TW := tc1 (mq_mem (n := 55) rfl) (by decide +kernel)
theorem w_155 : Cond.instanceMethod yX5_init ∈ TW := tc1 (mq_mem (n := 59) rfl) (by decide +kernel)
theorem w_156 : Cond.code yX5_init cX5_init 1 none ∈ TW := tc1 (mq_mem (n := 60) rfl) (by decide +kernel)
theorem w_157 : Cond.methodLink RX5 3 Lib.objectInit ∈ TW := tc1 (mq_mem (n := 61) rfl) (by decide +kernel)
theorem w_231 : Cond.instanceMethod yX4_init ∈ TW := tc1 (mq_mem (n := 135) rfl) (by decide +kernel)
theorem w_232 : Cond.code yX4_init cX4_init 1 none ∈ TW := tc1 (mq_mem (n := 136) rfl) (by decide +kernel)
theorem w_233 : Cond.methodLink RX4 3 Lib.objectInit ∈ TW := tc1 (mq_mem (n := 137) rfl) (by decide +kernel)
theorem w_237 : Cond.instanceMethod yX8_init ∈ TW := tc1 (mq_mem (n := 141) rfl) (by decide +kernel)
theorem w_238 : Cond.code yX8_init cX8_init 1 none ∈ TW := tc1 (mq_mem (n := 142) rfl) (by decide +kernel)
theorem w_239 : Cond.methodLink RX8 3 Lib.objectInit ∈ TW := tc1 (mq_mem (n := 143) rfl) (by decide +kernel)
theorem w_296 : Cond.methodLink RX11 42 yX2_init ∈ TW := tc1 (mq_mem (n := 200) rfl) (by decide +kernel)
theorem w_297 : Cond.instanceMethod yX2_init ∈ TW := tc1 (mq_mem (n := 201) rfl) (by decide +kernel)
theorem w_298 : Cond.code yX2_init cX2_init 2 none ∈ TW := tc1 (mq_mem (n := 202) rfl) (by decide +kernel)
theorem w_299 : Cond.methodLink RX2 1 Lib.objectInit ∈ TW := tc1 (mq_mem (n := 203) rfl) (by decide +kernel)
theorem w_319 : Cond.instanceMethod yX3_init ∈ TW := tc1 (mq_mem (n := 223) rfl) (by decide +kernel)
theorem w_320 : Cond.code yX3_init cX3_init 1 none ∈ TW := tc1 (mq_mem (n := 224) rfl) (by decide +kernel)
theorem w_321 : Cond.methodLink RX3 5 Lib.objectInit ∈ TW := tc1 (mq_mem (n := 225) rfl) (by decide +kernel)
theorem w_362 : Cond.instanceMethod yX9_init ∈ TW := tc2 (mq_mem (n := 26) rfl) (by decide +kernel)
theorem w_363 : Cond.code yX9_init cX9_init 1 none ∈ TW := tc2 (mq_mem (n := 27) rfl) (by decide +kernel)
theorem w_364 : Cond.methodLink RX9 3 Lib.objectInit ∈ TW := tc2 (mq_mem (n := 28) rfl) (by decide +kernel)
theorem w_394 : Cond.methodLink RX11 95 yX6_init ∈ TW := tc2 (mq_mem (n := 58) rfl) (by decide +kernel)
theorem w_395 : Cond.instanceMethod yX6_init ∈ TW := tc2 (mq_mem (n := 59) rfl) (by decide +kernel)
theorem w_396 : Cond.code yX6_init cX6_init 2 none ∈ TW := tc2 (mq_mem (n := 60) rfl) (by decide +kernel)
theorem w_397 : Cond.methodLink RX6 3 Lib.objectInit ∈ TW := tc2 (mq_mem (n := 61) rfl) (by decide +kernel)
theorem w_427 : Cond.methodLink RX11 104 yX7_init ∈ TW := tc2 (mq_mem (n := 91) rfl) (by decide +kernel)
theorem w_428 : Cond.instanceMethod yX7_init ∈ TW := tc2 (mq_mem (n := 92) rfl) (by decide +kernel)
theorem w_429 : Cond.code yX7_init cX7_init 2 none ∈ TW := tc2 (mq_mem (n := 93) rfl) (by decide +kernel)
theorem w_430 : Cond.methodLink RX7 3 Lib.objectInit ∈ TW := tc2 (mq_mem (n := 94) rfl) (by decide +kernel)
theorem w_460 : Cond.instanceMethod yX0_init ∈ TW := tc2 (mq_mem (n := 124) rfl) (by decide +kernel)
theorem w_461 : Cond.code yX0_init cX0_init 1 none ∈ TW := tc2 (mq_mem (n := 125) rfl) (by decide +kernel)
theorem w_462 : Cond.methodLink RX0 3 Lib.objectInit ∈ TW := tc2 (mq_mem (n := 126) rfl) (by decide +kernel)
theorem w_1257 : Cond.methodLink RL 22 yX12_init ∈ TW := tc5 (mq_mem (n := 201) rfl) (by decide +kernel)
theorem w_1258 : Cond.instanceMethod yX12_init ∈ TW := tc5 (mq_mem (n := 202) rfl) (by decide +kernel)
theorem w_1259 : Cond.code yX12_init cX12_init 1 none ∈ TW := tc5 (mq_mem (n := 203) rfl) (by decide +kernel)
theorem w_1260 : Cond.methodLink RX12 3 Lib.objectInit ∈ TW := tc5 (mq_mem (n := 204) rfl) (by decide +kernel)
theorem nw_L_8 : NewOK RL 8 RX11 TX11 tyX11 19 11 [2, 2, 2, 2, 2, 2, 2, 2, 2, 2, 2, 0, 2, 2, 2, 0, 2, 2, 0] := ⟨tX11, tyX11_ok, w_117, w_118, w_97, rfl, rfl, by decide, by decide +kernel⟩
theorem ki_L_19 : CallI RL 19 μX11_init 0 := ⟨w_119, w_120, w_97, w_121, ⟨qcl_0.1, qcl_0.2, qde_10⟩, Nat.le_of_ble_eq_true rfl, rfl, rfl⟩
theorem ob_X11_3 : ObjOK RX11 3 := ⟨w_122, w_123, w_124⟩
theorem nw_X11_9 : NewOK RX11 9 RX10 TX10 tyX10 2 10 [2, 0] := ⟨tX10, tyX10_ok, w_125, w_126, w_98, rfl, rfl, by decide, by decide +kernel⟩
theorem ki_X11_11 : CallIN RX11 11 RX11 μX10_init 0 := ⟨mq_mem (n := 0) rfl, w_128, w_98, w_129, ⟨qcl_1.1, qcl_1.2, qde_10⟩, Nat.le_of_ble_eq_true rfl, rfl, rfl⟩
theorem ob_X10_1 : ObjOK RX10 1 := ⟨w_130, w_123, w_124⟩
theorem nw_X11_16 : NewOK RX11 16 RX1 TX1 tyX1 8 1 [2, 2, 2, 0, 0, 0, 0, 0] := ⟨tX1, tyX1_ok, w_146, w_147, w_99, rfl, rfl, by decide, by decide +kernel⟩
theorem ki_X11_18 : CallIN RX11 18 RX11 μX1_init 0 := ⟨mq_mem (n := 1) rfl, w_149, w_99, w_150, ⟨qcl_6.1, qcl_6.2, qde_10⟩, Nat.le_of_ble_eq_true rfl, rfl, rfl⟩
theorem ob_X1_3 : ObjOK RX1 3 := ⟨w_151, w_123, w_124⟩
theorem nw_X1_15 : NewOK RX1 15 RX5 TX5 tyX5 9 5 [2, 2, 2, 2, 0, 0, 0, 0, 0] := ⟨tX5, tyX5_ok, w_152, w_153, w_100, rfl, rfl, by decide, by decide +kernel⟩
theorem ki_X1_17 : CallIN RX1 17 RX11 μX5_init 0 := ⟨mq_mem (n := 2) rfl, w_155, w_100, w_156, ⟨qcl_5.1, qcl_5.2, qde_10⟩, Nat.le_of_ble_eq_true rfl, rfl, rfl⟩
theorem ob_X5_3 : ObjOK RX5 3 := ⟨w_157, w_123, w_124⟩
theorem nw_X11_23 : NewOK RX11 23 RX4 TX4 tyX4 8 4 [2, 0, 0, 0, 0, 0, 0, 0] := ⟨tX4, tyX4_ok, w_228, w_229, w_101, rfl, rfl, by decide, by decide +kernel⟩
theorem ki_X11_25 : CallIN RX11 25 RX11 μX4_init 0 := ⟨mq_mem (n := 3) rfl, w_231, w_101, w_232, ⟨qcl_2.1, qcl_2.2, qde_10⟩, Nat.le_of_ble_eq_true rfl, rfl, rfl⟩
theorem ob_X4_3 : ObjOK RX4 3 := ⟨w_233, w_123, w_124⟩
theorem nw_X4_9 : NewOK RX4 9 RX8 TX8 tyX8 5 8 [2, 2, 2, 2, 0] := ⟨tX8, tyX8_ok, w_234, w_235, w_102, rfl, rfl, by decide, by decide +kernel⟩
theorem ki_X4_11 : CallIN RX4 11 RX11 μX8_init 0 := ⟨mq_mem (n := 4) rfl, w_237, w_102, w_238, ⟨qcl_3.1, qcl_3.2, qde_10⟩, Nat.le_of_ble_eq_true rfl, rfl, rfl⟩
theorem ob_X8_3 : ObjOK RX8 3 := ⟨w_239, w_123, w_124⟩
theorem nw_X11_30 : NewOK RX11 30 RX8 TX8 tyX8 5 8 [2, 2, 2, 2, 0] := ⟨tX8, tyX8_ok, w_292, w_235, w_102, rfl, rfl, by decide, by decide +kernel⟩
theorem ki_X11_32 : CallIN RX11 32 RX11 μX8_init 0 := ⟨mq_mem (n := 5) rfl, w_237, w_102, w_238, ⟨qcl_3.1, qcl_3.2, qde_10⟩, Nat.le_of_ble_eq_true rfl, rfl, rfl⟩
theorem nw_X11_40 : NewOK RX11 40 RX2 TX2 tyX2 3 2 [2, 0, 0] := ⟨tX2, tyX2_ok, w_294, w_295, w_103, rfl, rfl, by decide, by decide +kernel⟩
theorem ki_X11_42 : CallI RX11 42 μX2_init 0 := ⟨w_296, w_297, w_103, w_298, ⟨qcl_7.1, qcl_7.2, qde_10⟩, Nat.le_of_ble_eq_true rfl, rfl, rfl⟩
theorem ob_X2_1 : ObjOK RX2 1 := ⟨w_299, w_123, w_124⟩
theorem nw_X2_9 : NewOK RX2 9 RX8 TX8 tyX8 5 8 [2, 2, 2, 2, 0] := ⟨tX8, tyX8_ok, w_300, w_235, w_102, rfl, rfl, by decide, by decide +kernel⟩
theorem ki_X2_22 : CallIN RX2 22 RX11 μX8_init 0 := ⟨mq_mem (n := 6) rfl, w_237, w_102, w_238, ⟨qcl_3.1, qcl_3.2, qde_10⟩, Nat.le_of_ble_eq_true rfl, rfl, rfl⟩
theorem nw_X11_47 : NewOK RX11 47 RX0 TX0 tyX0 5 0 [2, 2, 0, 0, 0] := ⟨tX0, tyX0_ok, w_314, w_458, w_108, rfl, rfl, by decide, by decide +kernel⟩
theorem nw_X11_53 : NewOK RX11 53 RX3 TX3 tyX3 9 3 [2, 2, 2, 2, 2, 0, 0, 0, 0] := ⟨tX3, tyX3_ok, w_316, w_317, w_104, rfl, rfl, by decide, by decide +kernel⟩
theorem ki_X11_55 : CallIN RX11 55 RX11 μX3_init 0 := ⟨mq_mem (n := 7) rfl, w_319, w_104, w_320, ⟨qcl_4.1, qcl_4.2, qde_10⟩, Nat.le_of_ble_eq_true rfl, rfl, rfl⟩
theorem ob_X3_5 : ObjOK RX3 5 := ⟨w_321, w_123, w_124⟩
theorem nw_X11_90 : NewOK RX11 90 RX9 TX9 tyX9 6 9 [2, 2, 2, 2, 0, 0] := ⟨tX9, tyX9_ok, w_359, w_360, w_105, rfl, rfl, by decide, by decide +kernel⟩
theorem ki_X11_92 : CallIN RX11 92 RX11 μX9_init 0 := ⟨mq_mem (n := 8) rfl, w_362, w_105, w_363, ⟨qcl_9.1, qcl_9.2, qde_10⟩, Nat.le_of_ble_eq_true rfl, rfl, rfl⟩
theorem ob_X9_3 : ObjOK RX9 3 := ⟨w_364, w_123, w_124⟩
theorem nw_X11_93 : NewOK RX11 93 RX6 TX6 tyX6 7 6 [2, 2, 2, 2, 2, 2, 0] := ⟨tX6, tyX6_ok, w_392, w_393, w_106, rfl, rfl, by decide, by decide +kernel⟩
theorem ki_X11_95 : CallI RX11 95 μX6_init 1 := ⟨w_394, w_395, w_106, w_396, ⟨qcl_10.1, qcl_10.2, qde_65⟩, Nat.le_of_ble_eq_true rfl, rfl, rfl⟩
theorem ob_X6_3 : ObjOK RX6 3 := ⟨w_397, w_123, w_124⟩
theorem nw_X6_9 : NewOK RX6 9 RX8 TX8 tyX8 5 8 [2, 2, 2, 2, 0] := ⟨tX8, tyX8_ok, w_398, w_235, w_102, rfl, rfl, by decide, by decide +kernel⟩
theorem ki_X6_11 : CallIN RX6 11 RX11 μX8_init 0 := ⟨mq_mem (n := 9) rfl, w_237, w_102, w_238, ⟨qcl_3.1, qcl_3.2, qde_10⟩, Nat.le_of_ble_eq_true rfl, rfl, rfl⟩
theorem nw_X11_102 : NewOK RX11 102 RX7 TX7 tyX7 6 7 [2, 2, 2, 0, 0, 1] := ⟨tX7, tyX7_ok, w_425, w_426, w_107, rfl, rfl, by decide, by decide +kernel⟩
theorem ki_X11_104 : CallI RX11 104 μX7_init 1 := ⟨w_427, w_428, w_107, w_429, ⟨qcl_8.1, qcl_8.2, qde_65⟩, Nat.le_of_ble_eq_true rfl, rfl, rfl⟩
theorem ob_X7_3 : ObjOK RX7 3 := ⟨w_430, w_123, w_124⟩
theorem nw_X7_9 : NewOK RX7 9 RX8 TX8 tyX8 5 8 [2, 2, 2, 2, 0] := ⟨tX8, tyX8_ok, w_431, w_235, w_102, rfl, rfl, by decide, by decide +kernel⟩
theorem ki_X7_11 : CallIN RX7 11 RX11 μX8_init 0 := ⟨mq_mem (n := 10) rfl, w_237, w_102, w_238, ⟨qcl_3.1, qcl_3.2, qde_10⟩, Nat.le_of_ble_eq_true rfl, rfl, rfl⟩
theorem ki_X11_109 : CallIN RX11 109 RX11 μX0_init 0 := ⟨mq_mem (n := 11) rfl, w_460, w_108, w_461, ⟨qcl_12.1, qcl_12.2, qde_10⟩, Nat.le_of_ble_eq_true rfl, rfl, rfl⟩
theorem ob_X0_3 : ObjOK RX0 3 := ⟨w_462, w_123, w_124⟩
theorem nw_X0_9 : NewOK RX0 9 RX8 TX8 tyX8 5 8 [2, 2, 2, 2, 0] := ⟨tX8, tyX8_ok, w_463, w_235, w_102, rfl, rfl, by decide, by decide +kernel⟩
theorem ki_X0_11 : CallIN RX0 11 RX11 μX8_init 0 := ⟨mq_mem (n := 12) rfl, w_237, w_102, w_238, ⟨qcl_3.1, qcl_3.2, qde_10⟩, Nat.le_of_ble_eq_true rfl, rfl, rfl⟩
theorem nw_L_20 : NewOK RL 20 RX12 TX12 tyX12 57 12 [0, 0, 2, 2, 2, 2, 2, 2, 0, 2, 0, 0, 0, 2, 0, 2, 0, 0, 2, 0, 0, 0, 0, 2, 2, 2, 2, 0, 0, 2, 0, 2, 0, 0, 0, 0, 2, 2, 2, 2, 2, 2, 2, 0, 2, 0, 0, 2, 0, 0, 2, 2, 0, 0, 2, 2, 2] := ⟨tX12, tyX12_ok, w_1255, w_1256, w_109, rfl, rfl, by decide, by decide +kernel⟩
theorem ki_L_22 : CallI RL 22 μX12_init 0 := ⟨w_1257, w_1258, w_109, w_1259, ⟨qcl_13.1, qcl_13.2, qde_10⟩, Nat.le_of_ble_eq_true rfl, rfl, rfl⟩
theorem ob_X12_3 : ObjOK RX12 3 := ⟨w_1260, w_123, w_124⟩
theorem ar_0 : Cond.arrayClass .int ∈ TW := tc1 (mq_mem (n := 90) rfl) (by decide +kernel)
theorem ar_1 : Cond.arrayClass .byte ∈ TW := tc6 (mq_mem (n := 137) rfl) (by decide +kernel)
theorem ar_2 : Cond.arrayClass .char ∈ TW := tc1 (mq_mem (n := 49) rfl) (by decide +kernel)
theorem ar_3 : Cond.arrayClass .boolean ∈ TW := tc1 (mq_mem (n := 91) rfl) (by decide +kernel)
theorem ar_4 : Cond.arrayClass .long ∈ TW := tc2 (mq_mem (n := 55) rfl) (by decide +kernel)
def K_X10 (m : Wm) (b n : Nat) : Wm := uI (uR (zm m n) b 0 (some n)) b 1 (0)
def N_X10 (lay : List Ent) : List Ent := (ps lay (.inr (2, 80)))
set_option maxRecDepth 100000 in
set_option maxHeartbeats 40000000 in
theorem n_X10 {bs d : Nat} {lay : List Ent} {m : Wm} {b n : Nat} (hn : lay.length = n) (hb : lay[b]? = some (.inl (10, [2, 0]))) : CtK bs lay ((ps lay (.inr (2, 80)))) μX10_init (d + 1) 1 80 [.ref (adb bs b)] m (K_X10 m b n) := by
  refine CtK.of (n := n) (by decide +kernel) rfl rfl hn (Nat.le_of_ble_eq_true rfl) ?_
  refine aw_eq (L' := [(0, .ref (adb bs b))]) ?_ rfl rfl rfl
  refine aw_aload_n (j := 0) dX10_init_0 rfl rfl ?_
  refine aw_objInit dX10_init_1 ob_X10_1 (Nat.le_of_ble_eq_true rfl) ?_
  refine aw_aload_n (j := 0) dX10_init_4 rfl rfl ?_
  refine aw_bipush (v := 80) dX10_init_5 (by decide) ?_
  refine aw_newa2 (n := n) (kc := 0) (ks := 0) (N := 80) dX10_init_7 hn ar_2 (by decide) (by decide +kernel) (by decide +kernel) ?_
  refine aw_putFR (x := n) dX10_init_9 f_X10_9 cl_X10 rfl rfl rfl (at_old hb) rfl rfl rfl ?_
  refine aw_aload_n (j := 0) dX10_init_12 rfl rfl ?_
  refine aw_iconst (v := 0) dX10_init_13 (by decide) ?_
  refine aw_putI dX10_init_14 f_X10_13 cl_X10 rfl (at_old hb) rfl (by decide) (by decide) ?_
  exact aw_ret (v := none) rfl (Or.inl ⟨rfl, rfl, dX10_init_17⟩) ⟨rfl, rfl⟩
def K_X5 (m : Wm) (b n : Nat) : Wm := uI (uI (uI (uI (uI (uR (zm (uR (zm (uR (zm (uR (zm m n) b 0 (some n)) (n + 1)) b 1 (some (n + 1))) (n + 2)) b 2 (some (n + 2))) (n + 3)) b 3 (some (n + 3))) b 4 (0)) b 5 (0)) b 6 (0)) b 7 (0)) b 8 (1)
def N_X5 (lay : List Ent) : List Ent := (ps (ps (ps (ps lay (.inr (0, 40))) (.inr (0, 40))) (.inr (0, 40))) (.inr (3, 5)))
set_option maxRecDepth 100000 in
set_option maxHeartbeats 40000000 in
theorem n_X5 {bs d : Nat} {lay : List Ent} {m : Wm} {b n : Nat} (hn : lay.length = n) (hb : lay[b]? = some (.inl (5, [2, 2, 2, 2, 0, 0, 0, 0, 0]))) : CtK bs lay ((ps (ps (ps (ps lay (.inr (0, 40))) (.inr (0, 40))) (.inr (0, 40))) (.inr (3, 5)))) μX5_init (d + 1) 4 125 [.ref (adb bs b)] m (K_X5 m b n) := by
  refine CtK.of (n := n) (by decide +kernel) rfl rfl hn (Nat.le_of_ble_eq_true rfl) ?_
  refine aw_eq (L' := [(0, .ref (adb bs b))]) ?_ rfl rfl rfl
  refine aw_aload_n (j := 0) dX5_init_0 rfl rfl ?_
  refine aw_objInit dX5_init_1 ob_X5_3 (Nat.le_of_ble_eq_true rfl) ?_
  refine aw_aload_n (j := 0) dX5_init_4 rfl rfl ?_
  refine aw_bipush (v := 40) dX5_init_5 (by decide) ?_
  refine aw_newa0 (n := n) (kc := 3) (ks := 85) (N := 40) dX5_init_7 hn ar_0 (by decide) (by decide +kernel) (by decide +kernel) ?_
  refine aw_putFR (x := n) dX5_init_9 f_X5_11 cl_X5 rfl rfl rfl (at_old hb) rfl rfl rfl ?_
  refine aw_aload_n (j := 0) dX5_init_12 rfl rfl ?_
  refine aw_bipush (v := 40) dX5_init_13 (by decide) ?_
  refine aw_newa0 (n := n + 1) (kc := 2) (ks := 45) (N := 40) dX5_init_15 (len_push hn) ar_0 (by decide) (by decide +kernel) (by decide +kernel) ?_
  refine aw_putFR (x := n + 1) dX5_init_17 f_X5_15 cl_X5 rfl rfl rfl (at_old (at_old hb)) rfl rfl rfl ?_
  refine aw_aload_n (j := 0) dX5_init_20 rfl rfl ?_
  refine aw_bipush (v := 40) dX5_init_21 (by decide) ?_
  refine aw_newa0 (n := n + 2) (kc := 1) (ks := 5) (N := 40) dX5_init_23 (len_push (len_push hn)) ar_0 (by decide) (by decide +kernel) (by decide +kernel) ?_
  refine aw_putFR (x := n + 2) dX5_init_25 f_X5_18 cl_X5 rfl rfl rfl (at_old (at_old (at_old hb))) rfl rfl rfl ?_
  refine aw_aload_n (j := 0) dX5_init_28 rfl rfl ?_
  refine aw_iconst (v := 5) dX5_init_29 (by decide) ?_
  refine aw_newa3 (n := n + 3) (kc := 0) (ks := 0) (N := 5) dX5_init_30 (len_push (len_push (len_push hn))) ar_3 (by decide) (by decide +kernel) (by decide +kernel) ?_
  refine aw_putFR (x := n + 3) dX5_init_32 f_X5_21 cl_X5 rfl rfl rfl (at_old (at_old (at_old (at_old hb)))) rfl rfl rfl ?_
  refine aw_aload_n (j := 0) dX5_init_35 rfl rfl ?_
  refine aw_iconst (v := 0) dX5_init_36 (by decide) ?_
  refine aw_putI dX5_init_37 f_X5_25 cl_X5 rfl (at_old (at_old (at_old (at_old hb)))) rfl (by decide) (by decide) ?_
  refine aw_aload_n (j := 0) dX5_init_40 rfl rfl ?_
  refine aw_iconst (v := 0) dX5_init_41 (by decide) ?_
  refine aw_putI dX5_init_42 f_X5_29 cl_X5 rfl (at_old (at_old (at_old (at_old hb)))) rfl (by decide) (by decide) ?_
  refine aw_aload_n (j := 0) dX5_init_45 rfl rfl ?_
  refine aw_iconst (v := 0) dX5_init_46 (by decide) ?_
  refine aw_putI dX5_init_47 f_X5_32 cl_X5 rfl (at_old (at_old (at_old (at_old hb)))) rfl (by decide) (by decide) ?_
  refine aw_aload_n (j := 0) dX5_init_50 rfl rfl ?_
  refine aw_iconst (v := 0) dX5_init_51 (by decide) ?_
  refine aw_putI dX5_init_52 f_X5_35 cl_X5 rfl (at_old (at_old (at_old (at_old hb)))) rfl (by decide) (by decide) ?_
  refine aw_aload_n (j := 0) dX5_init_55 rfl rfl ?_
  refine aw_iconst (v := 1) dX5_init_56 (by decide) ?_
  refine aw_putI dX5_init_57 f_X5_38 cl_X5 rfl (at_old (at_old (at_old (at_old hb)))) rfl (by decide) (by decide) ?_
  exact aw_ret (v := none) rfl (Or.inl ⟨rfl, rfl, dX5_init_60⟩) ⟨rfl, rfl⟩
def K_X8 (m : Wm) (b n : Nat) : Wm := uI (uR (zm (uR (zm (uR (zm (uR (zm m n) b 0 (some n)) (n + 1)) b 1 (some (n + 1))) (n + 2)) b 2 (some (n + 2))) (n + 3)) b 3 (some (n + 3))) b 4 (1)
def N_X8 (lay : List Ent) : List Ent := (ps (ps (ps (ps lay (.inr (0, 32))) (.inr (0, 8))) (.inr (0, 8))) (.inr (0, 8)))
set_option maxRecDepth 100000 in
set_option maxHeartbeats 40000000 in
theorem n_X8 {bs d : Nat} {lay : List Ent} {m : Wm} {b n : Nat} (hn : lay.length = n) (hb : lay[b]? = some (.inl (8, [2, 2, 2, 2, 0]))) : CtK bs lay ((ps (ps (ps (ps lay (.inr (0, 32))) (.inr (0, 8))) (.inr (0, 8))) (.inr (0, 8)))) μX8_init (d + 1) 4 56 [.ref (adb bs b)] m (K_X8 m b n) := by
  refine CtK.of (n := n) (by decide +kernel) rfl rfl hn (Nat.le_of_ble_eq_true rfl) ?_
  refine aw_eq (L' := [(0, .ref (adb bs b))]) ?_ rfl rfl rfl
  refine aw_aload_n (j := 0) dX8_init_0 rfl rfl ?_
  refine aw_objInit dX8_init_1 ob_X8_3 (Nat.le_of_ble_eq_true rfl) ?_
  refine aw_aload_n (j := 0) dX8_init_4 rfl rfl ?_
  refine aw_bipush (v := 32) dX8_init_5 (by decide) ?_
  refine aw_newa0 (n := n) (kc := 3) (ks := 24) (N := 32) dX8_init_7 hn ar_0 (by decide) (by decide +kernel) (by decide +kernel) ?_
  refine aw_putFR (x := n) dX8_init_9 f_X8_9 cl_X8 rfl rfl rfl (at_old hb) rfl rfl rfl ?_
  refine aw_aload_n (j := 0) dX8_init_12 rfl rfl ?_
  refine aw_bipush (v := 8) dX8_init_13 (by decide) ?_
  refine aw_newa0 (n := n + 1) (kc := 2) (ks := 16) (N := 8) dX8_init_15 (len_push hn) ar_0 (by decide) (by decide +kernel) (by decide +kernel) ?_
  refine aw_putFR (x := n + 1) dX8_init_17 f_X8_15 cl_X8 rfl rfl rfl (at_old (at_old hb)) rfl rfl rfl ?_
  refine aw_aload_n (j := 0) dX8_init_20 rfl rfl ?_
  refine aw_bipush (v := 8) dX8_init_21 (by decide) ?_
  refine aw_newa0 (n := n + 2) (kc := 1) (ks := 8) (N := 8) dX8_init_23 (len_push (len_push hn)) ar_0 (by decide) (by decide +kernel) (by decide +kernel) ?_
  refine aw_putFR (x := n + 2) dX8_init_25 f_X8_18 cl_X8 rfl rfl rfl (at_old (at_old (at_old hb))) rfl rfl rfl ?_
  refine aw_aload_n (j := 0) dX8_init_28 rfl rfl ?_
  refine aw_bipush (v := 8) dX8_init_29 (by decide) ?_
  refine aw_newa0 (n := n + 3) (kc := 0) (ks := 0) (N := 8) dX8_init_31 (len_push (len_push (len_push hn))) ar_0 (by decide) (by decide +kernel) (by decide +kernel) ?_
  refine aw_putFR (x := n + 3) dX8_init_33 f_X8_21 cl_X8 rfl rfl rfl (at_old (at_old (at_old (at_old hb)))) rfl rfl rfl ?_
  refine aw_aload_n (j := 0) dX8_init_36 rfl rfl ?_
  refine aw_iconst (v := 1) dX8_init_37 (by decide) ?_
  refine aw_putI dX8_init_38 f_X8_24 cl_X8 rfl (at_old (at_old (at_old (at_old hb)))) rfl (by decide) (by decide) ?_
  exact aw_ret (v := none) rfl (Or.inl ⟨rfl, rfl, dX8_init_41⟩) ⟨rfl, rfl⟩
def K_X3 (m : Wm) (b n : Nat) : Wm := uI (uI (uI (uI (uR (zm (uR (zm (uR (zm (uR (zm (uR (zm m n) b 0 (some n)) (n + 1)) b 1 (some (n + 1))) (n + 2)) b 2 (some (n + 2))) (n + 3)) b 3 (some (n + 3))) (n + 4)) b 4 (some (n + 4))) b 5 (0)) b 6 (0)) b 7 (0)) b 8 (0)
def N_X3 (lay : List Ent) : List Ent := (ps (ps (ps (ps (ps lay (.inr (0, 48))) (.inr (0, 48))) (.inr (0, 48))) (.inr (0, 13))) (.inr (0, 8)))
set_option maxRecDepth 100000 in
set_option maxHeartbeats 40000000 in
theorem n_X3 {bs d : Nat} {lay : List Ent} {m : Wm} {b n : Nat} (hn : lay.length = n) (hb : lay[b]? = some (.inl (3, [2, 2, 2, 2, 2, 0, 0, 0, 0]))) : CtK bs lay ((ps (ps (ps (ps (ps lay (.inr (0, 48))) (.inr (0, 48))) (.inr (0, 48))) (.inr (0, 13))) (.inr (0, 8)))) μX3_init (d + 1) 5 165 [.ref (adb bs b)] m (K_X3 m b n) := by
  refine CtK.of (n := n) (by decide +kernel) rfl rfl hn (Nat.le_of_ble_eq_true rfl) ?_
  refine aw_eq (L' := [(0, .ref (adb bs b))]) ?_ rfl rfl rfl
  refine aw_aload_n (j := 0) dX3_init_0 rfl rfl ?_
  refine aw_objInit dX3_init_1 ob_X3_5 (Nat.le_of_ble_eq_true rfl) ?_
  refine aw_aload_n (j := 0) dX3_init_4 rfl rfl ?_
  refine aw_bipush (v := 48) dX3_init_5 (by decide) ?_
  refine aw_newa0 (n := n) (kc := 4) (ks := 117) (N := 48) dX3_init_7 hn ar_0 (by decide) (by decide +kernel) (by decide +kernel) ?_
  refine aw_putFR (x := n) dX3_init_9 f_X3_11 cl_X3 rfl rfl rfl (at_old hb) rfl rfl rfl ?_
  refine aw_aload_n (j := 0) dX3_init_12 rfl rfl ?_
  refine aw_bipush (v := 48) dX3_init_13 (by decide) ?_
  refine aw_newa0 (n := n + 1) (kc := 3) (ks := 69) (N := 48) dX3_init_15 (len_push hn) ar_0 (by decide) (by decide +kernel) (by decide +kernel) ?_
  refine aw_putFR (x := n + 1) dX3_init_17 f_X3_15 cl_X3 rfl rfl rfl (at_old (at_old hb)) rfl rfl rfl ?_
  refine aw_aload_n (j := 0) dX3_init_20 rfl rfl ?_
  refine aw_bipush (v := 48) dX3_init_21 (by decide) ?_
  refine aw_newa0 (n := n + 2) (kc := 2) (ks := 21) (N := 48) dX3_init_23 (len_push (len_push hn)) ar_0 (by decide) (by decide +kernel) (by decide +kernel) ?_
  refine aw_putFR (x := n + 2) dX3_init_25 f_X3_18 cl_X3 rfl rfl rfl (at_old (at_old (at_old hb))) rfl rfl rfl ?_
  refine aw_aload_n (j := 0) dX3_init_28 rfl rfl ?_
  refine aw_bipush (v := 13) dX3_init_29 (by decide) ?_
  refine aw_newa0 (n := n + 3) (kc := 1) (ks := 8) (N := 13) dX3_init_31 (len_push (len_push (len_push hn))) ar_0 (by decide) (by decide +kernel) (by decide +kernel) ?_
  refine aw_putFR (x := n + 3) dX3_init_33 f_X3_21 cl_X3 rfl rfl rfl (at_old (at_old (at_old (at_old hb)))) rfl rfl rfl ?_
  refine aw_aload_n (j := 0) dX3_init_36 rfl rfl ?_
  refine aw_bipush (v := 8) dX3_init_37 (by decide) ?_
  refine aw_newa0 (n := n + 4) (kc := 0) (ks := 0) (N := 8) dX3_init_39 (len_push (len_push (len_push (len_push hn)))) ar_0 (by decide) (by decide +kernel) (by decide +kernel) ?_
  refine aw_putFR (x := n + 4) dX3_init_41 f_X3_24 cl_X3 rfl rfl rfl (at_old (at_old (at_old (at_old (at_old hb))))) rfl rfl rfl ?_
  refine aw_aload_n (j := 0) dX3_init_44 rfl rfl ?_
  refine aw_iconst (v := 0) dX3_init_45 (by decide) ?_
  refine aw_putI dX3_init_46 f_X3_27 cl_X3 rfl (at_old (at_old (at_old (at_old (at_old hb))))) rfl (by decide) (by decide) ?_
  refine aw_aload_n (j := 0) dX3_init_49 rfl rfl ?_
  refine aw_iconst (v := 0) dX3_init_50 (by decide) ?_
  refine aw_putI dX3_init_51 f_X3_31 cl_X3 rfl (at_old (at_old (at_old (at_old (at_old hb))))) rfl (by decide) (by decide) ?_
  refine aw_aload_n (j := 0) dX3_init_54 rfl rfl ?_
  refine aw_iconst (v := 0) dX3_init_55 (by decide) ?_
  refine aw_putI dX3_init_56 f_X3_34 cl_X3 rfl (at_old (at_old (at_old (at_old (at_old hb))))) rfl (by decide) (by decide) ?_
  refine aw_aload_n (j := 0) dX3_init_59 rfl rfl ?_
  refine aw_iconst (v := 0) dX3_init_60 (by decide) ?_
  refine aw_putI dX3_init_61 f_X3_37 cl_X3 rfl (at_old (at_old (at_old (at_old (at_old hb))))) rfl (by decide) (by decide) ?_
  exact aw_ret (v := none) rfl (Or.inl ⟨rfl, rfl, dX3_init_64⟩) ⟨rfl, rfl⟩
def K_X9 (m : Wm) (b n : Nat) : Wm := uI (uI (uR (zm (uR (zm (uR (zm (uR (zm m n) b 0 (some n)) (n + 1)) b 1 (some (n + 1))) (n + 2)) b 2 (some (n + 2))) (n + 3)) b 3 (some (n + 3))) b 4 (0)) b 5 (0)
def N_X9 (lay : List Ent) : List Ent := (ps (ps (ps (ps lay (.inr (4, 3000))) (.inr (4, 3000))) (.inr (0, 8192))) (.inr (0, 3000)))
set_option maxRecDepth 100000 in
set_option maxHeartbeats 40000000 in
theorem n_X9 {bs d : Nat} {lay : List Ent} {m : Wm} {b n : Nat} (hn : lay.length = n) (hb : lay[b]? = some (.inl (9, [2, 2, 2, 2, 0, 0]))) : CtK bs lay ((ps (ps (ps (ps lay (.inr (4, 3000))) (.inr (4, 3000))) (.inr (0, 8192))) (.inr (0, 3000)))) μX9_init (d + 1) 4 17192 [.ref (adb bs b)] m (K_X9 m b n) := by
  refine CtK.of (n := n) (by decide +kernel) rfl rfl hn (Nat.le_of_ble_eq_true rfl) ?_
  refine aw_eq (L' := [(0, .ref (adb bs b))]) ?_ rfl rfl rfl
  refine aw_aload_n (j := 0) dX9_init_0 rfl rfl ?_
  refine aw_objInit dX9_init_1 ob_X9_3 (Nat.le_of_ble_eq_true rfl) ?_
  refine aw_aload_n (j := 0) dX9_init_4 rfl rfl ?_
  refine aw_sipush (v := 3000) dX9_init_5 (by decide) ?_
  refine aw_newa4 (n := n) (kc := 3) (ks := 14192) (N := 3000) dX9_init_8 hn ar_4 (by decide) (by decide +kernel) (by decide +kernel) ?_
  refine aw_putFR (x := n) dX9_init_10 f_X9_11 cl_X9 rfl rfl rfl (at_old hb) rfl rfl rfl ?_
  refine aw_aload_n (j := 0) dX9_init_13 rfl rfl ?_
  refine aw_sipush (v := 3000) dX9_init_14 (by decide) ?_
  refine aw_newa4 (n := n + 1) (kc := 2) (ks := 11192) (N := 3000) dX9_init_17 (len_push hn) ar_4 (by decide) (by decide +kernel) (by decide +kernel) ?_
  refine aw_putFR (x := n + 1) dX9_init_19 f_X9_15 cl_X9 rfl rfl rfl (at_old (at_old hb)) rfl rfl rfl ?_
  refine aw_aload_n (j := 0) dX9_init_22 rfl rfl ?_
  refine aw_sipush (v := 8192) dX9_init_23 (by decide) ?_
  refine aw_newa0 (n := n + 2) (kc := 1) (ks := 3000) (N := 8192) dX9_init_26 (len_push (len_push hn)) ar_0 (by decide) (by decide +kernel) (by decide +kernel) ?_
  refine aw_putFR (x := n + 2) dX9_init_28 f_X9_18 cl_X9 rfl rfl rfl (at_old (at_old (at_old hb))) rfl rfl rfl ?_
  refine aw_aload_n (j := 0) dX9_init_31 rfl rfl ?_
  refine aw_sipush (v := 3000) dX9_init_32 (by decide) ?_
  refine aw_newa0 (n := n + 3) (kc := 0) (ks := 0) (N := 3000) dX9_init_35 (len_push (len_push (len_push hn))) ar_0 (by decide) (by decide +kernel) (by decide +kernel) ?_
  refine aw_putFR (x := n + 3) dX9_init_37 f_X9_22 cl_X9 rfl rfl rfl (at_old (at_old (at_old (at_old hb)))) rfl rfl rfl ?_
  refine aw_aload_n (j := 0) dX9_init_40 rfl rfl ?_
  refine aw_iconst (v := 0) dX9_init_41 (by decide) ?_
  refine aw_putI dX9_init_42 f_X9_25 cl_X9 rfl (at_old (at_old (at_old (at_old hb)))) rfl (by decide) (by decide) ?_
  refine aw_aload_n (j := 0) dX9_init_45 rfl rfl ?_
  refine aw_iconst (v := 0) dX9_init_46 (by decide) ?_
  refine aw_putI dX9_init_47 f_X9_29 cl_X9 rfl (at_old (at_old (at_old (at_old hb)))) rfl (by decide) (by decide) ?_
  exact aw_ret (v := none) rfl (Or.inl ⟨rfl, rfl, dX9_init_50⟩) ⟨rfl, rfl⟩
def K_X1 (m : Wm) (b n : Nat) : Wm := uI (uI (uI (uI (uI (uR (K_X5 (zm (uR (K_X5 (zm (uR (uI (uI (uI (uI (uI (zm m n) n (0 : Int32).toNatClampNeg (0)) n (1 : Int32).toNatClampNeg (1)) n (2 : Int32).toNatClampNeg (1)) n (3 : Int32).toNatClampNeg (0)) n (4 : Int32).toNatClampNeg (0)) b 0 (some n)) (n + 1)) (n + 1) (n + 2)) b 1 (some (n + 1))) (n + 6)) (n + 6) (n + 7)) b 2 (some (n + 6))) b 3 (0)) b 4 (2)) b 5 (0)) b 6 (-1)) b 7 (0)
def N_X1 (lay : List Ent) : List Ent := (ps (ps (ps (ps (ps (ps (ps (ps (ps (ps (ps lay (.inr (0, 5))) (.inl (5, [2, 2, 2, 2, 0, 0, 0, 0, 0]))) (.inr (0, 40))) (.inr (0, 40))) (.inr (0, 40))) (.inr (3, 5))) (.inl (5, [2, 2, 2, 2, 0, 0, 0, 0, 0]))) (.inr (0, 40))) (.inr (0, 40))) (.inr (0, 40))) (.inr (3, 5)))
set_option maxRecDepth 100000 in
set_option maxHeartbeats 40000000 in
theorem n_X1 {bs d : Nat} {lay : List Ent} {m : Wm} {b n : Nat} (hn : lay.length = n) (hb : lay[b]? = some (.inl (1, [2, 2, 2, 0, 0, 0, 0, 0]))) : CtK bs lay ((ps (ps (ps (ps (ps (ps (ps (ps (ps (ps (ps lay (.inr (0, 5))) (.inl (5, [2, 2, 2, 2, 0, 0, 0, 0, 0]))) (.inr (0, 40))) (.inr (0, 40))) (.inr (0, 40))) (.inr (3, 5))) (.inl (5, [2, 2, 2, 2, 0, 0, 0, 0, 0]))) (.inr (0, 40))) (.inr (0, 40))) (.inr (0, 40))) (.inr (3, 5)))) μX1_init (d + 2) 11 273 [.ref (adb bs b)] m (K_X1 m b n) := by
  refine CtK.of (n := n) (by decide +kernel) rfl rfl hn (Nat.le_of_ble_eq_true rfl) ?_
  refine aw_eq (L' := [(0, .ref (adb bs b))]) ?_ rfl rfl rfl
  refine aw_aload_n (j := 0) dX1_init_0 rfl rfl ?_
  refine aw_objInit dX1_init_1 ob_X1_3 (Nat.le_of_ble_eq_true rfl) ?_
  refine aw_aload_n (j := 0) dX1_init_4 rfl rfl ?_
  refine aw_iconst (v := 5) dX1_init_5 (by decide) ?_
  refine aw_newa0 (n := n) (kc := 10) (ks := 268) (N := 5) dX1_init_6 hn ar_0 (by decide) (by decide +kernel) (by decide +kernel) ?_
  refine aw_dup dX1_init_8 rfl ?_
  refine aw_iconst (v := 0) dX1_init_9 (by decide) ?_
  refine aw_iconst (v := 0) dX1_init_10 (by decide) ?_
  refine aw_iastore dX1_init_11 (at_new hn) (by unfold vp_in; decide) ?_
  refine aw_dup dX1_init_12 rfl ?_
  refine aw_iconst (v := 1) dX1_init_13 (by decide) ?_
  refine aw_iconst (v := 1) dX1_init_14 (by decide) ?_
  refine aw_iastore dX1_init_15 (at_new hn) (by unfold vp_in; decide) ?_
  refine aw_dup dX1_init_16 rfl ?_
  refine aw_iconst (v := 2) dX1_init_17 (by decide) ?_
  refine aw_iconst (v := 1) dX1_init_18 (by decide) ?_
  refine aw_iastore dX1_init_19 (at_new hn) (by unfold vp_in; decide) ?_
  refine aw_dup dX1_init_20 rfl ?_
  refine aw_iconst (v := 3) dX1_init_21 (by decide) ?_
  refine aw_iconst (v := 0) dX1_init_22 (by decide) ?_
  refine aw_iastore dX1_init_23 (at_new hn) (by unfold vp_in; decide) ?_
  refine aw_dup dX1_init_24 rfl ?_
  refine aw_iconst (v := 4) dX1_init_25 (by decide) ?_
  refine aw_iconst (v := 0) dX1_init_26 (by decide) ?_
  refine aw_iastore dX1_init_27 (at_new hn) (by unfold vp_in; decide) ?_
  refine aw_putFR (x := n) dX1_init_28 f_X1_9 cl_X1 rfl rfl rfl (at_old hb) rfl rfl rfl ?_
  refine aw_aload_n (j := 0) dX1_init_31 rfl rfl ?_
  refine aw_new (n := n + 1) (kc := 9) (ks := 259) (N := 9) dX1_init_32 (len_push hn) nw_X1_15 ?_
  refine aw_dup dX1_init_35 rfl ?_
  refine aw_callIN (n := n + 2) (kc := 5) (ks := 134) (kc' := 4) (ks' := 125) (rest := [.ref (adb bs (n + 1)), .ref (adb bs b)]) [] dX1_init_36 (len_push (len_push hn)) (by omega) (len_push (len_push (len_push (len_push (len_push (len_push hn)))))) ki_X1_17 rfl (n_X5 (hn := (len_push (len_push hn))) (hb := (at_new (len_push hn)))) (Nat.le_of_ble_eq_true rfl) ?_
  refine aw_putR (x := n + 1) dX1_init_39 f_X1_18 cl_X1 rfl (at_old (at_old (at_old (at_old (at_old (at_old hb)))))) rfl rfl rfl ?_
  refine aw_aload_n (j := 0) dX1_init_42 rfl rfl ?_
  refine aw_new (n := n + 6) (kc := 4) (ks := 125) (N := 9) dX1_init_43 (len_push (len_push (len_push (len_push (len_push (len_push hn)))))) nw_X1_15 ?_
  refine aw_dup dX1_init_46 rfl ?_
  refine aw_callIN (n := n + 7) (kc := 0) (ks := 0) (kc' := 4) (ks' := 125) (rest := [.ref (adb bs (n + 6)), .ref (adb bs b)]) [] dX1_init_47 (len_push (len_push (len_push (len_push (len_push (len_push (len_push hn))))))) (by omega) (len_push (len_push (len_push (len_push (len_push (len_push (len_push (len_push (len_push (len_push (len_push hn))))))))))) ki_X1_17 rfl (n_X5 (hn := (len_push (len_push (len_push (len_push (len_push (len_push (len_push hn)))))))) (hb := (at_new (len_push (len_push (len_push (len_push (len_push (len_push hn))))))))) (Nat.le_of_ble_eq_true rfl) ?_
  refine aw_putR (x := n + 6) dX1_init_50 f_X1_22 cl_X1 rfl (at_old (at_old (at_old (at_old (at_old (at_old (at_old (at_old (at_old (at_old (at_old hb))))))))))) rfl rfl rfl ?_
  refine aw_aload_n (j := 0) dX1_init_53 rfl rfl ?_
  refine aw_iconst (v := 0) dX1_init_54 (by decide) ?_
  refine aw_putI dX1_init_55 f_X1_25 cl_X1 rfl (at_old (at_old (at_old (at_old (at_old (at_old (at_old (at_old (at_old (at_old (at_old hb))))))))))) rfl (by decide) (by decide) ?_
  refine aw_aload_n (j := 0) dX1_init_58 rfl rfl ?_
  refine aw_iconst (v := 2) dX1_init_59 (by decide) ?_
  refine aw_putI dX1_init_60 f_X1_29 cl_X1 rfl (at_old (at_old (at_old (at_old (at_old (at_old (at_old (at_old (at_old (at_old (at_old hb))))))))))) rfl (by decide) (by decide) ?_
  refine aw_aload_n (j := 0) dX1_init_63 rfl rfl ?_
  refine aw_iconst (v := 0) dX1_init_64 (by decide) ?_
  refine aw_putI dX1_init_65 f_X1_32 cl_X1 rfl (at_old (at_old (at_old (at_old (at_old (at_old (at_old (at_old (at_old (at_old (at_old hb))))))))))) rfl (by decide) (by decide) ?_
  refine aw_aload_n (j := 0) dX1_init_68 rfl rfl ?_
  refine aw_iconst (v := -1) dX1_init_69 (by decide) ?_
  refine aw_putI dX1_init_70 f_X1_35 cl_X1 rfl (at_old (at_old (at_old (at_old (at_old (at_old (at_old (at_old (at_old (at_old (at_old hb))))))))))) rfl (by decide) (by decide) ?_
  refine aw_aload_n (j := 0) dX1_init_73 rfl rfl ?_
  refine aw_iconst (v := 0) dX1_init_74 (by decide) ?_
  refine aw_putI dX1_init_75 f_X1_38 cl_X1 rfl (at_old (at_old (at_old (at_old (at_old (at_old (at_old (at_old (at_old (at_old (at_old hb))))))))))) rfl (by decide) (by decide) ?_
  exact aw_ret (v := none) rfl (Or.inl ⟨rfl, rfl, dX1_init_78⟩) ⟨rfl, rfl⟩
def K_X4 (m : Wm) (b n : Nat) : Wm := uI (uI (uI (uI (uI (uI (uI (uR (K_X8 (zm m n) n (n + 1)) b 0 (some n)) b 1 (0)) b 2 (0)) b 3 (0)) b 4 (0)) b 5 (0)) b 6 (0)) b 7 (0)
def N_X4 (lay : List Ent) : List Ent := (ps (ps (ps (ps (ps lay (.inl (8, [2, 2, 2, 2, 0]))) (.inr (0, 32))) (.inr (0, 8))) (.inr (0, 8))) (.inr (0, 8)))
set_option maxRecDepth 100000 in
set_option maxHeartbeats 40000000 in
theorem n_X4 {bs d : Nat} {lay : List Ent} {m : Wm} {b n : Nat} (hn : lay.length = n) (hb : lay[b]? = some (.inl (4, [2, 0, 0, 0, 0, 0, 0, 0]))) : CtK bs lay ((ps (ps (ps (ps (ps lay (.inl (8, [2, 2, 2, 2, 0]))) (.inr (0, 32))) (.inr (0, 8))) (.inr (0, 8))) (.inr (0, 8)))) μX4_init (d + 2) 5 61 [.ref (adb bs b)] m (K_X4 m b n) := by
  refine CtK.of (n := n) (by decide +kernel) rfl rfl hn (Nat.le_of_ble_eq_true rfl) ?_
  refine aw_eq (L' := [(0, .ref (adb bs b))]) ?_ rfl rfl rfl
  refine aw_aload_n (j := 0) dX4_init_0 rfl rfl ?_
  refine aw_objInit dX4_init_1 ob_X4_3 (Nat.le_of_ble_eq_true rfl) ?_
  refine aw_aload_n (j := 0) dX4_init_4 rfl rfl ?_
  refine aw_new (n := n) (kc := 4) (ks := 56) (N := 5) dX4_init_5 hn nw_X4_9 ?_
  refine aw_dup dX4_init_8 rfl ?_
  refine aw_callIN (n := n + 1) (kc := 0) (ks := 0) (kc' := 4) (ks' := 56) (rest := [.ref (adb bs n), .ref (adb bs b)]) [] dX4_init_9 (len_push hn) (by omega) (len_push (len_push (len_push (len_push (len_push hn))))) ki_X4_11 rfl (n_X8 (hn := (len_push hn)) (hb := (at_new hn))) (Nat.le_of_ble_eq_true rfl) ?_
  refine aw_putFR (x := n) dX4_init_12 f_X4_12 cl_X4 rfl rfl rfl (at_old (at_old (at_old (at_old (at_old hb))))) rfl rfl rfl ?_
  refine aw_aload_n (j := 0) dX4_init_15 rfl rfl ?_
  refine aw_iconst (v := 0) dX4_init_16 (by decide) ?_
  refine aw_putI dX4_init_17 f_X4_18 cl_X4 rfl (at_old (at_old (at_old (at_old (at_old hb))))) rfl (by decide) (by decide) ?_
  refine aw_aload_n (j := 0) dX4_init_20 rfl rfl ?_
  refine aw_iconst (v := 0) dX4_init_21 (by decide) ?_
  refine aw_putI dX4_init_22 f_X4_22 cl_X4 rfl (at_old (at_old (at_old (at_old (at_old hb))))) rfl (by decide) (by decide) ?_
  refine aw_aload_n (j := 0) dX4_init_25 rfl rfl ?_
  refine aw_iconst (v := 0) dX4_init_26 (by decide) ?_
  refine aw_putI dX4_init_27 f_X4_25 cl_X4 rfl (at_old (at_old (at_old (at_old (at_old hb))))) rfl (by decide) (by decide) ?_
  refine aw_aload_n (j := 0) dX4_init_30 rfl rfl ?_
  refine aw_iconst (v := 0) dX4_init_31 (by decide) ?_
  refine aw_putI dX4_init_32 f_X4_28 cl_X4 rfl (at_old (at_old (at_old (at_old (at_old hb))))) rfl (by decide) (by decide) ?_
  refine aw_aload_n (j := 0) dX4_init_35 rfl rfl ?_
  refine aw_iconst (v := 0) dX4_init_36 (by decide) ?_
  refine aw_putI dX4_init_37 f_X4_31 cl_X4 rfl (at_old (at_old (at_old (at_old (at_old hb))))) rfl (by decide) (by decide) ?_
  refine aw_aload_n (j := 0) dX4_init_40 rfl rfl ?_
  refine aw_iconst (v := 0) dX4_init_41 (by decide) ?_
  refine aw_putI dX4_init_42 f_X4_34 cl_X4 rfl (at_old (at_old (at_old (at_old (at_old hb))))) rfl (by decide) (by decide) ?_
  refine aw_aload_n (j := 0) dX4_init_45 rfl rfl ?_
  refine aw_iconst (v := 0) dX4_init_46 (by decide) ?_
  refine aw_putI dX4_init_47 f_X4_37 cl_X4 rfl (at_old (at_old (at_old (at_old (at_old hb))))) rfl (by decide) (by decide) ?_
  exact aw_ret (v := none) rfl (Or.inl ⟨rfl, rfl, dX4_init_50⟩) ⟨rfl, rfl⟩
def K_X0 (m : Wm) (b n : Nat) : Wm := uI (uI (uI (uR (zm (uR (K_X8 (zm m n) n (n + 1)) b 0 (some n)) (n + 5)) b 1 (some (n + 5))) b 2 (0)) b 3 (0)) b 4 (0)
def N_X0 (lay : List Ent) : List Ent := (ps (ps (ps (ps (ps (ps lay (.inl (8, [2, 2, 2, 2, 0]))) (.inr (0, 32))) (.inr (0, 8))) (.inr (0, 8))) (.inr (0, 8))) (.inr (0, 5)))
set_option maxRecDepth 100000 in
set_option maxHeartbeats 40000000 in
theorem n_X0 {bs d : Nat} {lay : List Ent} {m : Wm} {b n : Nat} (hn : lay.length = n) (hb : lay[b]? = some (.inl (0, [2, 2, 0, 0, 0]))) : CtK bs lay ((ps (ps (ps (ps (ps (ps lay (.inl (8, [2, 2, 2, 2, 0]))) (.inr (0, 32))) (.inr (0, 8))) (.inr (0, 8))) (.inr (0, 8))) (.inr (0, 5)))) μX0_init (d + 2) 6 66 [.ref (adb bs b)] m (K_X0 m b n) := by
  refine CtK.of (n := n) (by decide +kernel) rfl rfl hn (Nat.le_of_ble_eq_true rfl) ?_
  refine aw_eq (L' := [(0, .ref (adb bs b))]) ?_ rfl rfl rfl
  refine aw_aload_n (j := 0) dX0_init_0 rfl rfl ?_
  refine aw_objInit dX0_init_1 ob_X0_3 (Nat.le_of_ble_eq_true rfl) ?_
  refine aw_aload_n (j := 0) dX0_init_4 rfl rfl ?_
  refine aw_new (n := n) (kc := 5) (ks := 61) (N := 5) dX0_init_5 hn nw_X0_9 ?_
  refine aw_dup dX0_init_8 rfl ?_
  refine aw_callIN (n := n + 1) (kc := 1) (ks := 5) (kc' := 4) (ks' := 56) (rest := [.ref (adb bs n), .ref (adb bs b)]) [] dX0_init_9 (len_push hn) (by omega) (len_push (len_push (len_push (len_push (len_push hn))))) ki_X0_11 rfl (n_X8 (hn := (len_push hn)) (hb := (at_new hn))) (Nat.le_of_ble_eq_true rfl) ?_
  refine aw_putFR (x := n) dX0_init_12 f_X0_12 cl_X0 rfl rfl rfl (at_old (at_old (at_old (at_old (at_old hb))))) rfl rfl rfl ?_
  refine aw_aload_n (j := 0) dX0_init_15 rfl rfl ?_
  refine aw_iconst (v := 5) dX0_init_16 (by decide) ?_
  refine aw_newa0 (n := n + 5) (kc := 0) (ks := 0) (N := 5) dX0_init_17 (len_push (len_push (len_push (len_push (len_push hn))))) ar_0 (by decide) (by decide +kernel) (by decide +kernel) ?_
  refine aw_putFR (x := n + 5) dX0_init_19 f_X0_18 cl_X0 rfl rfl rfl (at_old (at_old (at_old (at_old (at_old (at_old hb)))))) rfl rfl rfl ?_
  refine aw_aload_n (j := 0) dX0_init_22 rfl rfl ?_
  refine aw_iconst (v := 0) dX0_init_23 (by decide) ?_
  refine aw_putI dX0_init_24 f_X0_22 cl_X0 rfl (at_old (at_old (at_old (at_old (at_old (at_old hb)))))) rfl (by decide) (by decide) ?_
  refine aw_aload_n (j := 0) dX0_init_27 rfl rfl ?_
  refine aw_iconst (v := 0) dX0_init_28 (by decide) ?_
  refine aw_putI dX0_init_29 f_X0_26 cl_X0 rfl (at_old (at_old (at_old (at_old (at_old (at_old hb)))))) rfl (by decide) (by decide) ?_
  refine aw_aload_n (j := 0) dX0_init_32 rfl rfl ?_
  refine aw_iconst (v := 0) dX0_init_33 (by decide) ?_
  refine aw_putI dX0_init_34 f_X0_29 cl_X0 rfl (at_old (at_old (at_old (at_old (at_old (at_old hb)))))) rfl (by decide) (by decide) ?_
  exact aw_ret (v := none) rfl (Or.inl ⟨rfl, rfl, dX0_init_37⟩) ⟨rfl, rfl⟩
def K_X6 (m : Wm) (b n : Nat) (a1 : Nat) : Wm := uR (uI (uR (zm (uR (zm (uR (zm (uR (zm (uR (K_X8 (zm m n) n (n + 1)) b 1 (some n)) (n + 5)) b 2 (some (n + 5))) (n + 6)) b 3 (some (n + 6))) (n + 7)) b 4 (some (n + 7))) (n + 8)) b 5 (some (n + 8))) b 6 (0)) b 0 (some a1)
def N_X6 (lay : List Ent) : List Ent := (ps (ps (ps (ps (ps (ps (ps (ps (ps lay (.inl (8, [2, 2, 2, 2, 0]))) (.inr (0, 32))) (.inr (0, 8))) (.inr (0, 8))) (.inr (0, 8))) (.inr (0, 8))) (.inr (0, 3000))) (.inr (0, 3000))) (.inr (0, 3000)))
set_option maxRecDepth 100000 in
set_option maxHeartbeats 40000000 in
theorem n_X6 {bs d : Nat} {lay : List Ent} {m : Wm} {b n : Nat} {a1 : Nat} (hn : lay.length = n) (hb : lay[b]? = some (.inl (6, [2, 2, 2, 2, 2, 2, 0]))) (ha1 : lay[a1]? = some (.inl (9, [2, 2, 2, 2, 0, 0]))) : CtK bs lay ((ps (ps (ps (ps (ps (ps (ps (ps (ps lay (.inl (8, [2, 2, 2, 2, 0]))) (.inr (0, 32))) (.inr (0, 8))) (.inr (0, 8))) (.inr (0, 8))) (.inr (0, 8))) (.inr (0, 3000))) (.inr (0, 3000))) (.inr (0, 3000)))) μX6_init (d + 2) 9 9069 [.ref (adb bs b), .ref (adb bs a1)] m (K_X6 m b n a1) := by
  refine CtK.of (n := n) (by decide +kernel) rfl rfl hn (Nat.le_of_ble_eq_true rfl) ?_
  refine aw_eq (L' := [(0, .ref (adb bs b)), (1, .ref (adb bs a1))]) ?_ rfl rfl rfl
  refine aw_aload_n (j := 0) dX6_init_0 rfl rfl ?_
  refine aw_objInit dX6_init_1 ob_X6_3 (Nat.le_of_ble_eq_true rfl) ?_
  refine aw_aload_n (j := 0) dX6_init_4 rfl rfl ?_
  refine aw_new (n := n) (kc := 8) (ks := 9064) (N := 5) dX6_init_5 hn nw_X6_9 ?_
  refine aw_dup dX6_init_8 rfl ?_
  refine aw_callIN (n := n + 1) (kc := 4) (ks := 9008) (kc' := 4) (ks' := 56) (rest := [.ref (adb bs n), .ref (adb bs b)]) [] dX6_init_9 (len_push hn) (by omega) (len_push (len_push (len_push (len_push (len_push hn))))) ki_X6_11 rfl (n_X8 (hn := (len_push hn)) (hb := (at_new hn))) (Nat.le_of_ble_eq_true rfl) ?_
  refine aw_putFR (x := n) dX6_init_12 f_X6_12 cl_X6 rfl rfl rfl (at_old (at_old (at_old (at_old (at_old hb))))) rfl rfl rfl ?_
  refine aw_aload_n (j := 0) dX6_init_15 rfl rfl ?_
  refine aw_bipush (v := 8) dX6_init_16 (by decide) ?_
  refine aw_newa0 (n := n + 5) (kc := 3) (ks := 9000) (N := 8) dX6_init_18 (len_push (len_push (len_push (len_push (len_push hn))))) ar_0 (by decide) (by decide +kernel) (by decide +kernel) ?_
  refine aw_putFR (x := n + 5) dX6_init_20 f_X6_18 cl_X6 rfl rfl rfl (at_old (at_old (at_old (at_old (at_old (at_old hb)))))) rfl rfl rfl ?_
  refine aw_aload_n (j := 0) dX6_init_23 rfl rfl ?_
  refine aw_sipush (v := 3000) dX6_init_24 (by decide) ?_
  refine aw_newa0 (n := n + 6) (kc := 2) (ks := 6000) (N := 3000) dX6_init_27 (len_push (len_push (len_push (len_push (len_push (len_push hn)))))) ar_0 (by decide) (by decide +kernel) (by decide +kernel) ?_
  refine aw_putFR (x := n + 6) dX6_init_29 f_X6_24 cl_X6 rfl rfl rfl (at_old (at_old (at_old (at_old (at_old (at_old (at_old hb))))))) rfl rfl rfl ?_
  refine aw_aload_n (j := 0) dX6_init_32 rfl rfl ?_
  refine aw_sipush (v := 3000) dX6_init_33 (by decide) ?_
  refine aw_newa0 (n := n + 7) (kc := 1) (ks := 3000) (N := 3000) dX6_init_36 (len_push (len_push (len_push (len_push (len_push (len_push (len_push hn))))))) ar_0 (by decide) (by decide +kernel) (by decide +kernel) ?_
  refine aw_putFR (x := n + 7) dX6_init_38 f_X6_27 cl_X6 rfl rfl rfl (at_old (at_old (at_old (at_old (at_old (at_old (at_old (at_old hb)))))))) rfl rfl rfl ?_
  refine aw_aload_n (j := 0) dX6_init_41 rfl rfl ?_
  refine aw_sipush (v := 3000) dX6_init_42 (by decide) ?_
  refine aw_newa0 (n := n + 8) (kc := 0) (ks := 0) (N := 3000) dX6_init_45 (len_push (len_push (len_push (len_push (len_push (len_push (len_push (len_push hn)))))))) ar_0 (by decide) (by decide +kernel) (by decide +kernel) ?_
  refine aw_putFR (x := n + 8) dX6_init_47 f_X6_30 cl_X6 rfl rfl rfl (at_old (at_old (at_old (at_old (at_old (at_old (at_old (at_old (at_old hb))))))))) rfl rfl rfl ?_
  refine aw_aload_n (j := 0) dX6_init_50 rfl rfl ?_
  refine aw_iconst (v := 0) dX6_init_51 (by decide) ?_
  refine aw_putI dX6_init_52 f_X6_33 cl_X6 rfl (at_old (at_old (at_old (at_old (at_old (at_old (at_old (at_old (at_old hb))))))))) rfl (by decide) (by decide) ?_
  refine aw_aload_n (j := 0) dX6_init_55 rfl rfl ?_
  refine aw_aload_n (j := 1) dX6_init_56 rfl rfl ?_
  refine aw_putFR (x := a1) dX6_init_57 f_X6_37 cl_X6 rfl rfl rfl (at_old (at_old (at_old (at_old (at_old (at_old (at_old (at_old (at_old hb))))))))) rfl rfl rfl ?_
  exact aw_ret (v := none) rfl (Or.inl ⟨rfl, rfl, dX6_init_60⟩) ⟨rfl, rfl⟩
def K_X7 (m : Wm) (b n : Nat) (a1 : Nat) : Wm := uR (uL (uI (uI (uR (zm (uR (K_X8 (zm m n) n (n + 1)) b 1 (some n)) (n + 5)) b 2 (some (n + 5))) b 3 (0)) b 4 (0)) b 5 (0)) b 0 (some a1)
def N_X7 (lay : List Ent) : List Ent := (ps (ps (ps (ps (ps (ps lay (.inl (8, [2, 2, 2, 2, 0]))) (.inr (0, 32))) (.inr (0, 8))) (.inr (0, 8))) (.inr (0, 8))) (.inr (0, 8)))
set_option maxRecDepth 100000 in
set_option maxHeartbeats 40000000 in
theorem n_X7 {bs d : Nat} {lay : List Ent} {m : Wm} {b n : Nat} {a1 : Nat} (hn : lay.length = n) (hb : lay[b]? = some (.inl (7, [2, 2, 2, 0, 0, 1]))) (ha1 : lay[a1]? = some (.inl (9, [2, 2, 2, 2, 0, 0]))) : CtK bs lay ((ps (ps (ps (ps (ps (ps lay (.inl (8, [2, 2, 2, 2, 0]))) (.inr (0, 32))) (.inr (0, 8))) (.inr (0, 8))) (.inr (0, 8))) (.inr (0, 8)))) μX7_init (d + 2) 6 69 [.ref (adb bs b), .ref (adb bs a1)] m (K_X7 m b n a1) := by
  refine CtK.of (n := n) (by decide +kernel) rfl rfl hn (Nat.le_of_ble_eq_true rfl) ?_
  refine aw_eq (L' := [(0, .ref (adb bs b)), (1, .ref (adb bs a1))]) ?_ rfl rfl rfl
  refine aw_aload_n (j := 0) dX7_init_0 rfl rfl ?_
  refine aw_objInit dX7_init_1 ob_X7_3 (Nat.le_of_ble_eq_true rfl) ?_
  refine aw_aload_n (j := 0) dX7_init_4 rfl rfl ?_
  refine aw_new (n := n) (kc := 5) (ks := 64) (N := 5) dX7_init_5 hn nw_X7_9 ?_
  refine aw_dup dX7_init_8 rfl ?_
  refine aw_callIN (n := n + 1) (kc := 1) (ks := 8) (kc' := 4) (ks' := 56) (rest := [.ref (adb bs n), .ref (adb bs b)]) [] dX7_init_9 (len_push hn) (by omega) (len_push (len_push (len_push (len_push (len_push hn))))) ki_X7_11 rfl (n_X8 (hn := (len_push hn)) (hb := (at_new hn))) (Nat.le_of_ble_eq_true rfl) ?_
  refine aw_putFR (x := n) dX7_init_12 f_X7_12 cl_X7 rfl rfl rfl (at_old (at_old (at_old (at_old (at_old hb))))) rfl rfl rfl ?_
  refine aw_aload_n (j := 0) dX7_init_15 rfl rfl ?_
  refine aw_bipush (v := 8) dX7_init_16 (by decide) ?_
  refine aw_newa0 (n := n + 5) (kc := 0) (ks := 0) (N := 8) dX7_init_18 (len_push (len_push (len_push (len_push (len_push hn))))) ar_0 (by decide) (by decide +kernel) (by decide +kernel) ?_
  refine aw_putFR (x := n + 5) dX7_init_20 f_X7_18 cl_X7 rfl rfl rfl (at_old (at_old (at_old (at_old (at_old (at_old hb)))))) rfl rfl rfl ?_
  refine aw_aload_n (j := 0) dX7_init_23 rfl rfl ?_
  refine aw_iconst (v := 0) dX7_init_24 (by decide) ?_
  refine aw_putI dX7_init_25 f_X7_22 cl_X7 rfl (at_old (at_old (at_old (at_old (at_old (at_old hb)))))) rfl (by decide) (by decide) ?_
  refine aw_aload_n (j := 0) dX7_init_28 rfl rfl ?_
  refine aw_iconst (v := 0) dX7_init_29 (by decide) ?_
  refine aw_putI dX7_init_30 f_X7_26 cl_X7 rfl (at_old (at_old (at_old (at_old (at_old (at_old hb)))))) rfl (by decide) (by decide) ?_
  refine aw_aload_n (j := 0) dX7_init_33 rfl rfl ?_
  refine aw_lconst (v := 0) dX7_init_34 (by decide) ?_
  refine aw_putL dX7_init_35 f_X7_29 cl_X7 rfl (at_old (at_old (at_old (at_old (at_old (at_old hb)))))) rfl (by decide) (by decide) ?_
  refine aw_aload_n (j := 0) dX7_init_38 rfl rfl ?_
  refine aw_aload_n (j := 1) dX7_init_39 rfl rfl ?_
  refine aw_putFR (x := a1) dX7_init_40 f_X7_33 cl_X7 rfl rfl rfl (at_old (at_old (at_old (at_old (at_old (at_old hb)))))) rfl rfl rfl ?_
  exact aw_ret (v := none) rfl (Or.inl ⟨rfl, rfl, dX7_init_43⟩) ⟨rfl, rfl⟩
