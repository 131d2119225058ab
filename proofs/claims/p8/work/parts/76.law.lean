section
/-! THE LAW'S OWN: the script, that no cell of the world is -/
def SX (sb Ls : Nat) (xs : Nat → Int32) : Launch → State → (Nat → Prop) → Prop := fun l s A => va_X sb Ls xs s s.heap ∧ sb < s.heap.size ∧ ¬ A sb ∧ l.stackTraces = false ∧ XT s A
abbrev EX (X : Launch → State → (Nat → Prop) → Prop) (kc ks : Nat) (lq : List Ent) : EB := (fun _ l _ _ s _ _ _ _ _ _ _ _ _ A _ => X l s A, kc, ks, lq)
section AWS
variable {lay lq : List Ent} {ad : Nat → Nat} {X : Launch → State → (Nat → Prop) → Prop} {bs n kc ks kc' ks' sb Ls : Nat} {xs : Nat → Int32} {μ : MI} {d : Nat} {Q : Option Value → Wm → Prop} {pc : Nat} {L : List (Nat × Value)} {rest st : List Value} {m : Wm}
theorem aw_sld {i : Int32} (hd : decode μ.2.1 pc = .ok (.iaload, 1)) (hi : vp_in i Ls) (k : AWl lay ad (EX (SX sb Ls xs) kc ks lq) μ d Q (pc + 1) L (.int (xs i.toNatClampNeg) :: rest) m) : AWl lay ad (EX (SX sb Ls xs) kc ks lq) μ d Q pc L (.int i :: .ref sb :: rest) m := fun p l e R s mt args below meth c H locs cs sl G cA A ls Qz C hP hD hS hl => va_sld C.1.1 C.1.2.1 C.2.2.2.1.1.1 C.2.2.2.1.1.2.1 C.2.2.2.1.1.2.2.1 hS hi hd (k p l e R s mt args below meth c H locs cs sl G cA A ls Qz C hP hD hS hl)
theorem aw_slen (hd : decode μ.2.1 pc = .ok (.arraylength, 1)) (k : AWl lay ad (EX (SX sb Ls xs) kc ks lq) μ d Q (pc + 1) L (.int (Int32.ofNat Ls) :: rest) m) : AWl lay ad (EX (SX sb Ls xs) kc ks lq) μ d Q pc L (.ref sb :: rest) m := fun p l e R s mt args below meth c H locs cs sl G cA A ls Qz C hP hD hS hl => va_slen C.1.1 C.1.2.1 C.2.2.2.1.1.1 C.2.2.2.1.1.2.1 C.2.2.2.1.1.2.2.1 hS hd (k p l e R s mt args below meth c H locs cs sl G cA A ls Qz C hP hD hS hl)
/-- less room is asked -/
theorem aw_drop (h1 : kc ≤ kc') (h2 : ks ≤ ks') (k : AWl lay ad (EX X kc ks lq) μ d Q pc L st m) : AWl lay ad (EX X kc' ks' lq) μ d Q pc L st m := by
  intro p l e R s mt args below meth c H locs cs sl G cA A ls Qz C hP hD hS hl
  obtain ⟨hr1, hr2, hr3, hr4⟩ := C.2.2.2.2.1
  have hr3 : cs + kc' ≤ R.cells := hr3
  have hr4 : sl + ks' ≤ R.slots := hr4
  exact k p l e R s mt args below meth c H locs cs sl G cA A ls Qz ⟨C.1, C.2.1, C.2.2.1, C.2.2.2.1, ⟨hr1, hr2, by show cs + kc ≤ R.cells; omega, by show sl + ks ≤ R.slots; omega⟩, C.2.2.2.2.2⟩ hP hD hS hl
/-- the same cells, told by another layout; nothing more is made -/
theorem aw_lay {lay' : List Ent} (h : ∀ cA, cellsOf lay ad cA m = cellsOf lay' ad cA m) (k : AWl lay' ad (EX X kc ks lq) μ d Q pc L st m) : AWl lay ad (EK X bs n kc ks lq) μ d Q pc L st m :=
  fun p l e R s mt args below meth c H locs cs sl G cA A ls Qz C hP hD hS hl => k p l e R s mt args below meth c H locs cs sl G cA A ls Qz ⟨C.1, C.2.1, C.2.2.1, ⟨C.2.2.2.1.1.2, C.2.2.2.1.2⟩, C.2.2.2.2.1, C.2.2.2.2.2⟩ (h cA ▸ hP) (h cA ▸ hD) hS hl
end AWS
/-- a call of the law's own two, that catch -/
def CallSG (own : String) (idx : Nat) (μ' : MI) (hh : List (Nat × Nat × Nat × Nat)) (n : Nat) : Prop := Cond.methodLink own idx μ'.1 ∈ TW ∧ Cond.static μ'.1 ∈ TW ∧ Cond.initialized μ'.1.cls ∈ TW ∧ Cond.codeWith μ'.1 μ'.2.1 μ'.2.2.1 μ'.2.2.2.2 hh ∈ TW ∧ (μ'.1.cls ≠ "java/lang/invoke/MethodHandle" ∧ μ'.1.cls ≠ "java/lang/invoke/VarHandle" ∧ (parseMethodDescriptor μ'.1.desc).map (fun d => d.parameters.length) = some n) ∧ μ'.2.2.1 ≤ 22
theorem aw_callSg {ad : Nat → Nat} {kc ks sb Ls : Nat} {xs : Nat → Int32} {μ : MI} {d : Nat} {Q : Option Value → Wm → Prop} {pc : Nat} {L : List (Nat × Value)} {rest st : List Value} {m : Wm} {idx : Nat} {μ' : MI} {hh : List (Nat × Nat × Nat × Nat)} (As : List Value) {Q' : Option Value → Wm → Prop} (hd : decode μ.2.1 pc = .ok (.invokestatic idx, 3)) (cw : CallSG μ.2.2.2.1 idx μ' hh As.length) (hst : st = As.reverse ++ rest) (hM : Ctg ad μ' hh d 1 6 As m Q') (hW : (rest.map fun v => v.category).sum ≤ 8)
    (k : ∀ v m', Q' v m' → AWl LAY ad (EX (SX sb Ls xs) kc ks LAY) μ (d + 1) Q (pc + 3) L (v.toList ++ rest) m') : AWl LAY ad (EX (SX sb Ls xs) (kc + 1) (ks + 6) LAY) μ (d + 1) Q pc L st m := by
  subst hst
  intro p l e R s mt args below meth c H locs cs sl G cA A ls Qz C hP hD hS hl
  obtain ⟨w1, w2, w4, w5, w6, w7⟩ := cw
  have hts := C.1.2.2.2.2
  obtain ⟨hr1, hr2, hr3, hr4⟩ := C.2.2.2.2.1
  have hr3 : cs + (kc + 1) ≤ R.cells := hr3
  have hr4 : sl + (ks + 6) ≤ R.slots := hr4
  obtain ⟨⟨hx1, hx2, hx3, hl0, hX⟩, hnm, hnw⟩ := C.2.2.2.1
  have hA := C.2.2.1
  have hAA : ∀ q, va_A (cellsOf LAY ad cA m) H.size q → A q := by
    intro q hq
    rcases hq with ⟨k, x, hq⟩ | hq
    · exact hD.2 k (q, x) hq
    · exact hA q (Nat.le_trans hS.1 hq)
  have hr := vx_runSW (e := e) (below := below) (meth := meth) (locs := locs) (cells := cs) (slots := sl) (g := F0 mt pc ls (As.reverse ++ rest)) (As := As) (rest := rest) (n := As.length) (hh := hh) C.1 (hM l G cA H.size hl0) ⟨⟨rfl, rfl, hr1, by show 8 + (μ'.2.2.1 + 11) + 41 * d ≤ R.locals; omega, pay_in hts (good_tbl w5), List.mem_cons_self⟩, hts _ w5, hts _ w4, ⟨w6.1, w6.2.1⟩, fun sig h => by have h2 := w6.2.2; rw [h] at h2; exact (Option.some.inj h2).symm, hts _ w1, hts _ w2⟩ ⟨fun a U g mk q => ⟨q.1, PCt.blind a U g mk ⟨q.1, q.2.1⟩ |>.2, XW_same (s := U) (U := U.calling g mk a) rfl q.2.2.1, vx_Zq.moved (u := U) (U := U.calling g mk a) (Vm.Alike.refl U.vm) q.2.2.2.1, vx_Zq.moved (u := U) (U := U.calling g mk a) (Vm.Alike.refl U.vm) q.2.2.2.2⟩, fun U hU hW' => ⟨rfl, ⟨by rw [hU], by rw [hU]; exact hP, va_K.moved hW'.alike C.2.1, hD.weaken (fun _ _ _ _ => trivial), NWs.warm hW' hnw⟩, hX.go hW' hS hU hAA⟩⟩ rfl rfl hl.1 rfl (lv_room hW) hd ⟨by omega, by omega⟩
  intro T0 hT0 X0'
  obtain ⟨v, st₀, t, T', L', h0, X', hL, e1, e2, ⟨⟨v', m', hv, hq, hp⟩, hF⟩, st⟩ := hr T0 hT0 X0'
  cases hv
  obtain ⟨k1, k2, k3⟩ := vx_keep h0 e1 hS (fun q _ h => hAA q h) hAA hL hF
  obtain ⟨t2, a1, b1⟩ := k v m' hq p l e R s mt args below meth c T'.heap (locs ++ L') (cs + 1) (sl + 6) G cA A ls Qz ⟨C.1, C.2.1, C.2.2.1, ⟨⟨hx1, hx2, hx3, hl0, hX⟩, hnm, hnw⟩, ⟨hr1, hr2, by show cs + 1 + kc ≤ R.cells; omega, by show sl + 6 + ks ≤ R.slots; omega⟩, C.2.2.2.2.2⟩ (by rw [e1]; exact hp) (cells_D hD) k3 hl T' rfl X'
  exact ⟨t2, st t2 a1, b1⟩
theorem wx_50 : Cond.codeWith yL_of cL_of 5 (some .int) hL_of ∈ TW := tw (List.mem_of_getElem? (i := 1180) (by decide +kernel)) (by decide +kernel)
theorem wx_207 : Cond.codeWith yL_row cL_row 4 (some .int) hL_row ∈ TW := tw (List.mem_of_getElem? (i := 1250) (by decide +kernel)) (by decide +kernel)
theorem wx_51 : Cond.methodLink RL 50 yL_of ∈ TW := tw (by decide +kernel) (by decide +kernel)
theorem wx_52 : Cond.static yL_of ∈ TW := tw (by decide +kernel) (by decide +kernel)
theorem wx_53 : Cond.initialized RL ∈ TW := tw (by decide +kernel) (by decide +kernel)
theorem wx_208 : Cond.methodLink RL 207 yL_row ∈ TW := tw (by decide +kernel) (by decide +kernel)
theorem wx_209 : Cond.static yL_row ∈ TW := tw (by decide +kernel) (by decide +kernel)
theorem k_L_50 : CallSG RL 50 μL_of hL_of 4 := ⟨wx_51, wx_52, wx_53, wx_50, ⟨by decide, by decide, by decide +kernel⟩, by decide⟩
theorem k_L_207 : CallSG RL 207 μL_row hL_row 3 := ⟨wx_208, wx_209, wx_53, wx_207, ⟨by decide, by decide, by decide +kernel⟩, by decide⟩
abbrev μL_law : MI := (yL_law, cL_law, 8, RL, some .boolean)
set_option maxRecDepth 100000 in
set_option maxHeartbeats 4000000 in
theorem g_L_law_23 {ad : Nat → Nat} {sb Ls kc ks : Nat} {xs : Nat → Int32} {d : Nat} {Q : Option Value → Wm → Prop} {m : Wm} {x4 : Int32} (h : ((((Int32.ofNat Ls) - (6 : Int32)) < x4 → Q (some (.int (1 : Int32))) m) ∧ (¬ ((Int32.ofNat Ls) - (6 : Int32)) < x4 → (vp_in x4 Ls ∧ ((((xs x4.toNatClampNeg) &&& (63 : Int32)) = 0 → AWl LAY ad (EX (SX sb Ls xs) (kc + 1) (ks + 6) LAY) μL_law (d + 1) Q 232 [(0, .ref sb), (1, .ref (ad 0)), (2, .ref (ad 187)), (3, .ref (ad 217)), (4, .int x4)] [] m) ∧ (((xs x4.toNatClampNeg) &&& (63 : Int32)) = 1 → AWl LAY ad (EX (SX sb Ls xs) (kc + 1) (ks + 6) LAY) μL_law (d + 1) Q 257 [(0, .ref sb), (1, .ref (ad 0)), (2, .ref (ad 187)), (3, .ref (ad 217)), (4, .int x4)] [] m) ∧ (((xs x4.toNatClampNeg) &&& (63 : Int32)) = 2 → AWl LAY ad (EX (SX sb Ls xs) (kc + 1) (ks + 6) LAY) μL_law (d + 1) Q 282 [(0, .ref sb), (1, .ref (ad 0)), (2, .ref (ad 187)), (3, .ref (ad 217)), (4, .int x4)] [] m) ∧ (((xs x4.toNatClampNeg) &&& (63 : Int32)) = 3 → AWl LAY ad (EX (SX sb Ls xs) (kc + 1) (ks + 6) LAY) μL_law (d + 1) Q 295 [(0, .ref sb), (1, .ref (ad 0)), (2, .ref (ad 187)), (3, .ref (ad 217)), (4, .int x4)] [] m) ∧ (((xs x4.toNatClampNeg) &&& (63 : Int32)) = 4 → AWl LAY ad (EX (SX sb Ls xs) (kc + 1) (ks + 6) LAY) μL_law (d + 1) Q 308 [(0, .ref sb), (1, .ref (ad 0)), (2, .ref (ad 187)), (3, .ref (ad 217)), (4, .int x4)] [] m) ∧ (((xs x4.toNatClampNeg) &&& (63 : Int32)) = 5 → AWl LAY ad (EX (SX sb Ls xs) (kc + 1) (ks + 6) LAY) μL_law (d + 1) Q 321 [(0, .ref sb), (1, .ref (ad 0)), (2, .ref (ad 187)), (3, .ref (ad 217)), (4, .int x4)] [] m) ∧ (((xs x4.toNatClampNeg) &&& (63 : Int32)) = 6 → AWl LAY ad (EX (SX sb Ls xs) (kc + 1) (ks + 6) LAY) μL_law (d + 1) Q 358 [(0, .ref sb), (1, .ref (ad 0)), (2, .ref (ad 187)), (3, .ref (ad 217)), (4, .int x4)] [] m) ∧ (((xs x4.toNatClampNeg) &&& (63 : Int32)) = 7 → AWl LAY ad (EX (SX sb Ls xs) (kc + 1) (ks + 6) LAY) μL_law (d + 1) Q 426 [(0, .ref sb), (1, .ref (ad 0)), (2, .ref (ad 187)), (3, .ref (ad 217)), (4, .int x4)] [] m) ∧ (((xs x4.toNatClampNeg) &&& (63 : Int32)) = 8 → AWl LAY ad (EX (SX sb Ls xs) (kc + 1) (ks + 6) LAY) μL_law (d + 1) Q 463 [(0, .ref sb), (1, .ref (ad 0)), (2, .ref (ad 187)), (3, .ref (ad 217)), (4, .int x4)] [] m) ∧ (((xs x4.toNatClampNeg) &&& (63 : Int32)) = 9 → AWl LAY ad (EX (SX sb Ls xs) (kc + 1) (ks + 6) LAY) μL_law (d + 1) Q 536 [(0, .ref sb), (1, .ref (ad 0)), (2, .ref (ad 187)), (3, .ref (ad 217)), (4, .int x4)] [] m) ∧ (((xs x4.toNatClampNeg) &&& (63 : Int32)) = 10 → AWl LAY ad (EX (SX sb Ls xs) (kc + 1) (ks + 6) LAY) μL_law (d + 1) Q 589 [(0, .ref sb), (1, .ref (ad 0)), (2, .ref (ad 187)), (3, .ref (ad 217)), (4, .int x4)] [] m) ∧ (((xs x4.toNatClampNeg) &&& (63 : Int32)) = 11 → AWl LAY ad (EX (SX sb Ls xs) (kc + 1) (ks + 6) LAY) μL_law (d + 1) Q 626 [(0, .ref sb), (1, .ref (ad 0)), (2, .ref (ad 187)), (3, .ref (ad 217)), (4, .int x4)] [] m) ∧ (((xs x4.toNatClampNeg) &&& (63 : Int32)) = 12 → AWl LAY ad (EX (SX sb Ls xs) (kc + 1) (ks + 6) LAY) μL_law (d + 1) Q 639 [(0, .ref sb), (1, .ref (ad 0)), (2, .ref (ad 187)), (3, .ref (ad 217)), (4, .int x4)] [] m) ∧ (((xs x4.toNatClampNeg) &&& (63 : Int32)) = 13 → AWl LAY ad (EX (SX sb Ls xs) (kc + 1) (ks + 6) LAY) μL_law (d + 1) Q 688 [(0, .ref sb), (1, .ref (ad 0)), (2, .ref (ad 187)), (3, .ref (ad 217)), (4, .int x4)] [] m) ∧ (((xs x4.toNatClampNeg) &&& (63 : Int32)) = 14 → AWl LAY ad (EX (SX sb Ls xs) (kc + 1) (ks + 6) LAY) μL_law (d + 1) Q 725 [(0, .ref sb), (1, .ref (ad 0)), (2, .ref (ad 187)), (3, .ref (ad 217)), (4, .int x4)] [] m) ∧ (((xs x4.toNatClampNeg) &&& (63 : Int32)) = 15 → AWl LAY ad (EX (SX sb Ls xs) (kc + 1) (ks + 6) LAY) μL_law (d + 1) Q 774 [(0, .ref sb), (1, .ref (ad 0)), (2, .ref (ad 187)), (3, .ref (ad 217)), (4, .int x4)] [] m) ∧ (((xs x4.toNatClampNeg) &&& (63 : Int32)) = 16 → AWl LAY ad (EX (SX sb Ls xs) (kc + 1) (ks + 6) LAY) μL_law (d + 1) Q 787 [(0, .ref sb), (1, .ref (ad 0)), (2, .ref (ad 187)), (3, .ref (ad 217)), (4, .int x4)] [] m) ∧ (((xs x4.toNatClampNeg) &&& (63 : Int32)) = 17 → AWl LAY ad (EX (SX sb Ls xs) (kc + 1) (ks + 6) LAY) μL_law (d + 1) Q 824 [(0, .ref sb), (1, .ref (ad 0)), (2, .ref (ad 187)), (3, .ref (ad 217)), (4, .int x4)] [] m) ∧ (((xs x4.toNatClampNeg) &&& (63 : Int32)) = 18 → AWl LAY ad (EX (SX sb Ls xs) (kc + 1) (ks + 6) LAY) μL_law (d + 1) Q 849 [(0, .ref sb), (1, .ref (ad 0)), (2, .ref (ad 187)), (3, .ref (ad 217)), (4, .int x4)] [] m) ∧ (((xs x4.toNatClampNeg) &&& (63 : Int32)) = 19 → AWl LAY ad (EX (SX sb Ls xs) (kc + 1) (ks + 6) LAY) μL_law (d + 1) Q 874 [(0, .ref sb), (1, .ref (ad 0)), (2, .ref (ad 187)), (3, .ref (ad 217)), (4, .int x4)] [] m) ∧ (((xs x4.toNatClampNeg) &&& (63 : Int32)) = 20 → AWl LAY ad (EX (SX sb Ls xs) (kc + 1) (ks + 6) LAY) μL_law (d + 1) Q 887 [(0, .ref sb), (1, .ref (ad 0)), (2, .ref (ad 187)), (3, .ref (ad 217)), (4, .int x4)] [] m) ∧ (((xs x4.toNatClampNeg) &&& (63 : Int32)) = 21 → AWl LAY ad (EX (SX sb Ls xs) (kc + 1) (ks + 6) LAY) μL_law (d + 1) Q 912 [(0, .ref sb), (1, .ref (ad 0)), (2, .ref (ad 187)), (3, .ref (ad 217)), (4, .int x4)] [] m) ∧ (((xs x4.toNatClampNeg) &&& (63 : Int32)) = 22 → AWl LAY ad (EX (SX sb Ls xs) (kc + 1) (ks + 6) LAY) μL_law (d + 1) Q 925 [(0, .ref sb), (1, .ref (ad 0)), (2, .ref (ad 187)), (3, .ref (ad 217)), (4, .int x4)] [] m) ∧ (((xs x4.toNatClampNeg) &&& (63 : Int32)) = 23 → AWl LAY ad (EX (SX sb Ls xs) (kc + 1) (ks + 6) LAY) μL_law (d + 1) Q 938 [(0, .ref sb), (1, .ref (ad 0)), (2, .ref (ad 187)), (3, .ref (ad 217)), (4, .int x4)] [] m) ∧ (((xs x4.toNatClampNeg) &&& (63 : Int32)) = 24 → AWl LAY ad (EX (SX sb Ls xs) (kc + 1) (ks + 6) LAY) μL_law (d + 1) Q 951 [(0, .ref sb), (1, .ref (ad 0)), (2, .ref (ad 187)), (3, .ref (ad 217)), (4, .int x4)] [] m) ∧ (((xs x4.toNatClampNeg) &&& (63 : Int32)) = 25 → AWl LAY ad (EX (SX sb Ls xs) (kc + 1) (ks + 6) LAY) μL_law (d + 1) Q 988 [(0, .ref sb), (1, .ref (ad 0)), (2, .ref (ad 187)), (3, .ref (ad 217)), (4, .int x4)] [] m) ∧ (((xs x4.toNatClampNeg) &&& (63 : Int32)) = 26 → AWl LAY ad (EX (SX sb Ls xs) (kc + 1) (ks + 6) LAY) μL_law (d + 1) Q 1037 [(0, .ref sb), (1, .ref (ad 0)), (2, .ref (ad 187)), (3, .ref (ad 217)), (4, .int x4)] [] m) ∧ (((xs x4.toNatClampNeg) &&& (63 : Int32)) = 27 → AWl LAY ad (EX (SX sb Ls xs) (kc + 1) (ks + 6) LAY) μL_law (d + 1) Q 1086 [(0, .ref sb), (1, .ref (ad 0)), (2, .ref (ad 187)), (3, .ref (ad 217)), (4, .int x4)] [] m) ∧ (((xs x4.toNatClampNeg) &&& (63 : Int32)) = 28 → AWl LAY ad (EX (SX sb Ls xs) (kc + 1) (ks + 6) LAY) μL_law (d + 1) Q 1111 [(0, .ref sb), (1, .ref (ad 0)), (2, .ref (ad 187)), (3, .ref (ad 217)), (4, .int x4)] [] m) ∧ (((xs x4.toNatClampNeg) &&& (63 : Int32)) = 29 → AWl LAY ad (EX (SX sb Ls xs) (kc + 1) (ks + 6) LAY) μL_law (d + 1) Q 1160 [(0, .ref sb), (1, .ref (ad 0)), (2, .ref (ad 187)), (3, .ref (ad 217)), (4, .int x4)] [] m) ∧ (((xs x4.toNatClampNeg) &&& (63 : Int32)) = 30 → AWl LAY ad (EX (SX sb Ls xs) (kc + 1) (ks + 6) LAY) μL_law (d + 1) Q 1185 [(0, .ref sb), (1, .ref (ad 0)), (2, .ref (ad 187)), (3, .ref (ad 217)), (4, .int x4)] [] m) ∧ (((xs x4.toNatClampNeg) &&& (63 : Int32)) = 31 → AWl LAY ad (EX (SX sb Ls xs) (kc + 1) (ks + 6) LAY) μL_law (d + 1) Q 1222 [(0, .ref sb), (1, .ref (ad 0)), (2, .ref (ad 187)), (3, .ref (ad 217)), (4, .int x4)] [] m) ∧ (((xs x4.toNatClampNeg) &&& (63 : Int32)) = 32 → AWl LAY ad (EX (SX sb Ls xs) (kc + 1) (ks + 6) LAY) μL_law (d + 1) Q 1247 [(0, .ref sb), (1, .ref (ad 0)), (2, .ref (ad 187)), (3, .ref (ad 217)), (4, .int x4)] [] m) ∧ (((xs x4.toNatClampNeg) &&& (63 : Int32)) = 33 → AWl LAY ad (EX (SX sb Ls xs) (kc + 1) (ks + 6) LAY) μL_law (d + 1) Q 1260 [(0, .ref sb), (1, .ref (ad 0)), (2, .ref (ad 187)), (3, .ref (ad 217)), (4, .int x4)] [] m) ∧ (((xs x4.toNatClampNeg) &&& (63 : Int32)) = 34 → AWl LAY ad (EX (SX sb Ls xs) (kc + 1) (ks + 6) LAY) μL_law (d + 1) Q 1285 [(0, .ref sb), (1, .ref (ad 0)), (2, .ref (ad 187)), (3, .ref (ad 217)), (4, .int x4)] [] m) ∧ (((xs x4.toNatClampNeg) &&& (63 : Int32)) = 35 → AWl LAY ad (EX (SX sb Ls xs) (kc + 1) (ks + 6) LAY) μL_law (d + 1) Q 1334 [(0, .ref sb), (1, .ref (ad 0)), (2, .ref (ad 187)), (3, .ref (ad 217)), (4, .int x4)] [] m) ∧ (((xs x4.toNatClampNeg) &&& (63 : Int32)) = 36 → AWl LAY ad (EX (SX sb Ls xs) (kc + 1) (ks + 6) LAY) μL_law (d + 1) Q 1347 [(0, .ref sb), (1, .ref (ad 0)), (2, .ref (ad 187)), (3, .ref (ad 217)), (4, .int x4)] [] m) ∧ (((xs x4.toNatClampNeg) &&& (63 : Int32)) = 37 → AWl LAY ad (EX (SX sb Ls xs) (kc + 1) (ks + 6) LAY) μL_law (d + 1) Q 1360 [(0, .ref sb), (1, .ref (ad 0)), (2, .ref (ad 187)), (3, .ref (ad 217)), (4, .int x4)] [] m) ∧ (((xs x4.toNatClampNeg) &&& (63 : Int32)) = 38 → AWl LAY ad (EX (SX sb Ls xs) (kc + 1) (ks + 6) LAY) μL_law (d + 1) Q 1397 [(0, .ref sb), (1, .ref (ad 0)), (2, .ref (ad 187)), (3, .ref (ad 217)), (4, .int x4)] [] m) ∧ (((xs x4.toNatClampNeg) &&& (63 : Int32)) = 39 → AWl LAY ad (EX (SX sb Ls xs) (kc + 1) (ks + 6) LAY) μL_law (d + 1) Q 1422 [(0, .ref sb), (1, .ref (ad 0)), (2, .ref (ad 187)), (3, .ref (ad 217)), (4, .int x4)] [] m) ∧ (((xs x4.toNatClampNeg) &&& (63 : Int32)) = 40 → AWl LAY ad (EX (SX sb Ls xs) (kc + 1) (ks + 6) LAY) μL_law (d + 1) Q 1447 [(0, .ref sb), (1, .ref (ad 0)), (2, .ref (ad 187)), (3, .ref (ad 217)), (4, .int x4)] [] m) ∧ (((xs x4.toNatClampNeg) &&& (63 : Int32)) = 41 → AWl LAY ad (EX (SX sb Ls xs) (kc + 1) (ks + 6) LAY) μL_law (d + 1) Q 1472 [(0, .ref sb), (1, .ref (ad 0)), (2, .ref (ad 187)), (3, .ref (ad 217)), (4, .int x4)] [] m) ∧ (((xs x4.toNatClampNeg) &&& (63 : Int32)) = 42 → AWl LAY ad (EX (SX sb Ls xs) (kc + 1) (ks + 6) LAY) μL_law (d + 1) Q 1497 [(0, .ref sb), (1, .ref (ad 0)), (2, .ref (ad 187)), (3, .ref (ad 217)), (4, .int x4)] [] m) ∧ (((xs x4.toNatClampNeg) &&& (63 : Int32)) = 43 → AWl LAY ad (EX (SX sb Ls xs) (kc + 1) (ks + 6) LAY) μL_law (d + 1) Q 1522 [(0, .ref sb), (1, .ref (ad 0)), (2, .ref (ad 187)), (3, .ref (ad 217)), (4, .int x4)] [] m) ∧ (¬ ((xs x4.toNatClampNeg) &&& (63 : Int32)) = 0 → ¬ ((xs x4.toNatClampNeg) &&& (63 : Int32)) = 1 → ¬ ((xs x4.toNatClampNeg) &&& (63 : Int32)) = 2 → ¬ ((xs x4.toNatClampNeg) &&& (63 : Int32)) = 3 → ¬ ((xs x4.toNatClampNeg) &&& (63 : Int32)) = 4 → ¬ ((xs x4.toNatClampNeg) &&& (63 : Int32)) = 5 → ¬ ((xs x4.toNatClampNeg) &&& (63 : Int32)) = 6 → ¬ ((xs x4.toNatClampNeg) &&& (63 : Int32)) = 7 → ¬ ((xs x4.toNatClampNeg) &&& (63 : Int32)) = 8 → ¬ ((xs x4.toNatClampNeg) &&& (63 : Int32)) = 9 → ¬ ((xs x4.toNatClampNeg) &&& (63 : Int32)) = 10 → ¬ ((xs x4.toNatClampNeg) &&& (63 : Int32)) = 11 → ¬ ((xs x4.toNatClampNeg) &&& (63 : Int32)) = 12 → ¬ ((xs x4.toNatClampNeg) &&& (63 : Int32)) = 13 → ¬ ((xs x4.toNatClampNeg) &&& (63 : Int32)) = 14 → ¬ ((xs x4.toNatClampNeg) &&& (63 : Int32)) = 15 → ¬ ((xs x4.toNatClampNeg) &&& (63 : Int32)) = 16 → ¬ ((xs x4.toNatClampNeg) &&& (63 : Int32)) = 17 → ¬ ((xs x4.toNatClampNeg) &&& (63 : Int32)) = 18 → ¬ ((xs x4.toNatClampNeg) &&& (63 : Int32)) = 19 → ¬ ((xs x4.toNatClampNeg) &&& (63 : Int32)) = 20 → ¬ ((xs x4.toNatClampNeg) &&& (63 : Int32)) = 21 → ¬ ((xs x4.toNatClampNeg) &&& (63 : Int32)) = 22 → ¬ ((xs x4.toNatClampNeg) &&& (63 : Int32)) = 23 → ¬ ((xs x4.toNatClampNeg) &&& (63 : Int32)) = 24 → ¬ ((xs x4.toNatClampNeg) &&& (63 : Int32)) = 25 → ¬ ((xs x4.toNatClampNeg) &&& (63 : Int32)) = 26 → ¬ ((xs x4.toNatClampNeg) &&& (63 : Int32)) = 27 → ¬ ((xs x4.toNatClampNeg) &&& (63 : Int32)) = 28 → ¬ ((xs x4.toNatClampNeg) &&& (63 : Int32)) = 29 → ¬ ((xs x4.toNatClampNeg) &&& (63 : Int32)) = 30 → ¬ ((xs x4.toNatClampNeg) &&& (63 : Int32)) = 31 → ¬ ((xs x4.toNatClampNeg) &&& (63 : Int32)) = 32 → ¬ ((xs x4.toNatClampNeg) &&& (63 : Int32)) = 33 → ¬ ((xs x4.toNatClampNeg) &&& (63 : Int32)) = 34 → ¬ ((xs x4.toNatClampNeg) &&& (63 : Int32)) = 35 → ¬ ((xs x4.toNatClampNeg) &&& (63 : Int32)) = 36 → ¬ ((xs x4.toNatClampNeg) &&& (63 : Int32)) = 37 → ¬ ((xs x4.toNatClampNeg) &&& (63 : Int32)) = 38 → ¬ ((xs x4.toNatClampNeg) &&& (63 : Int32)) = 39 → ¬ ((xs x4.toNatClampNeg) &&& (63 : Int32)) = 40 → ¬ ((xs x4.toNatClampNeg) &&& (63 : Int32)) = 41 → ¬ ((xs x4.toNatClampNeg) &&& (63 : Int32)) = 42 → ¬ ((xs x4.toNatClampNeg) &&& (63 : Int32)) = 43 → AWl LAY ad (EX (SX sb Ls xs) kc ks LAY) μL_law (d + 1) Q 23 [(0, .ref sb), (1, .ref (ad 0)), (2, .ref (ad 187)), (3, .ref (ad 217)), (4, .int (x4 + (6 : Int32)))] [] m)))))) : AWl LAY ad (EX (SX sb Ls xs) (kc + 1) (ks + 6) LAY) μL_law (d + 1) Q 23 [(0, .ref sb), (1, .ref (ad 0)), (2, .ref (ad 187)), (3, .ref (ad 217)), (4, .int x4)] [] m := by
  refine aw_iload (j := 4) dL_law_23 rfl ?_
  refine aw_aload_n (j := 0) dL_law_25 rfl rfl ?_
  refine aw_slen dL_law_26 ?_
  refine aw_bipush (v := 6) dL_law_27 (by decide) ?_
  refine aw_isub dL_law_29 ?_
  refine aw_icmp_gt (tgt := 1556) dL_law_30 (by decide) (fun hc => ?_) (fun hc => ?_)
  · have h := h.1 hc
    refine aw_iconst (v := 1) dL_law_1556 (by decide) ?_
    exact aw_ret (v := some (.int (1 : Int32))) rfl (Or.inr (Or.inl ⟨_, .boolean, rfl, rfl, by decide, dL_law_1557⟩)) h
  · have h := h.2 hc
    refine aw_aload_n (j := 0) dL_law_33 rfl rfl ?_
    refine aw_iload (j := 4) dL_law_34 rfl ?_
    obtain ⟨hi, h⟩ := h
    refine aw_sld dL_law_36 hi ?_
    refine aw_bipush (v := 63) dL_law_37 (by decide) ?_
    refine aw_iand dL_law_39 ?_
    by_cases c0 : ((xs x4.toNatClampNeg) &&& (63 : Int32)) = 0
    · have h := h.1 c0
      refine aw_tswIn (tgt := 232) dL_law_40 c0 (by decide) (by decide) (by first | rfl | decide) (by decide) ?_
      exact aw_sub [0, 1, 2, 3, 4] rfl h
    by_cases c1 : ((xs x4.toNatClampNeg) &&& (63 : Int32)) = 1
    · have h := h.2.1 c1
      refine aw_tswIn (tgt := 257) dL_law_40 c1 (by decide) (by decide) (by first | rfl | decide) (by decide) ?_
      exact aw_sub [0, 1, 2, 3, 4] rfl h
    by_cases c2 : ((xs x4.toNatClampNeg) &&& (63 : Int32)) = 2
    · have h := h.2.2.1 c2
      refine aw_tswIn (tgt := 282) dL_law_40 c2 (by decide) (by decide) (by first | rfl | decide) (by decide) ?_
      exact aw_sub [0, 1, 2, 3, 4] rfl h
    by_cases c3 : ((xs x4.toNatClampNeg) &&& (63 : Int32)) = 3
    · have h := h.2.2.2.1 c3
      refine aw_tswIn (tgt := 295) dL_law_40 c3 (by decide) (by decide) (by first | rfl | decide) (by decide) ?_
      exact aw_sub [0, 1, 2, 3, 4] rfl h
    by_cases c4 : ((xs x4.toNatClampNeg) &&& (63 : Int32)) = 4
    · have h := h.2.2.2.2.1 c4
      refine aw_tswIn (tgt := 308) dL_law_40 c4 (by decide) (by decide) (by first | rfl | decide) (by decide) ?_
      exact aw_sub [0, 1, 2, 3, 4] rfl h
    by_cases c5 : ((xs x4.toNatClampNeg) &&& (63 : Int32)) = 5
    · have h := h.2.2.2.2.2.1 c5
      refine aw_tswIn (tgt := 321) dL_law_40 c5 (by decide) (by decide) (by first | rfl | decide) (by decide) ?_
      exact aw_sub [0, 1, 2, 3, 4] rfl h
    by_cases c6 : ((xs x4.toNatClampNeg) &&& (63 : Int32)) = 6
    · have h := h.2.2.2.2.2.2.1 c6
      refine aw_tswIn (tgt := 358) dL_law_40 c6 (by decide) (by decide) (by first | rfl | decide) (by decide) ?_
      exact aw_sub [0, 1, 2, 3, 4] rfl h
    by_cases c7 : ((xs x4.toNatClampNeg) &&& (63 : Int32)) = 7
    · have h := h.2.2.2.2.2.2.2.1 c7
      refine aw_tswIn (tgt := 426) dL_law_40 c7 (by decide) (by decide) (by first | rfl | decide) (by decide) ?_
      exact aw_sub [0, 1, 2, 3, 4] rfl h
    by_cases c8 : ((xs x4.toNatClampNeg) &&& (63 : Int32)) = 8
    · have h := h.2.2.2.2.2.2.2.2.1 c8
      refine aw_tswIn (tgt := 463) dL_law_40 c8 (by decide) (by decide) (by first | rfl | decide) (by decide) ?_
      exact aw_sub [0, 1, 2, 3, 4] rfl h
    by_cases c9 : ((xs x4.toNatClampNeg) &&& (63 : Int32)) = 9
    · have h := h.2.2.2.2.2.2.2.2.2.1 c9
      refine aw_tswIn (tgt := 536) dL_law_40 c9 (by decide) (by decide) (by first | rfl | decide) (by decide) ?_
      exact aw_sub [0, 1, 2, 3, 4] rfl h
    by_cases c10 : ((xs x4.toNatClampNeg) &&& (63 : Int32)) = 10
    · have h := h.2.2.2.2.2.2.2.2.2.2.1 c10
      refine aw_tswIn (tgt := 589) dL_law_40 c10 (by decide) (by decide) (by first | rfl | decide) (by decide) ?_
      exact aw_sub [0, 1, 2, 3, 4] rfl h
    by_cases c11 : ((xs x4.toNatClampNeg) &&& (63 : Int32)) = 11
    · have h := h.2.2.2.2.2.2.2.2.2.2.2.1 c11
      refine aw_tswIn (tgt := 626) dL_law_40 c11 (by decide) (by decide) (by first | rfl | decide) (by decide) ?_
      exact aw_sub [0, 1, 2, 3, 4] rfl h
    by_cases c12 : ((xs x4.toNatClampNeg) &&& (63 : Int32)) = 12
    · have h := h.2.2.2.2.2.2.2.2.2.2.2.2.1 c12
      refine aw_tswIn (tgt := 639) dL_law_40 c12 (by decide) (by decide) (by first | rfl | decide) (by decide) ?_
      exact aw_sub [0, 1, 2, 3, 4] rfl h
    by_cases c13 : ((xs x4.toNatClampNeg) &&& (63 : Int32)) = 13
    · have h := h.2.2.2.2.2.2.2.2.2.2.2.2.2.1 c13
      refine aw_tswIn (tgt := 688) dL_law_40 c13 (by decide) (by decide) (by first | rfl | decide) (by decide) ?_
      exact aw_sub [0, 1, 2, 3, 4] rfl h
    by_cases c14 : ((xs x4.toNatClampNeg) &&& (63 : Int32)) = 14
    · have h := h.2.2.2.2.2.2.2.2.2.2.2.2.2.2.1 c14
      refine aw_tswIn (tgt := 725) dL_law_40 c14 (by decide) (by decide) (by first | rfl | decide) (by decide) ?_
      exact aw_sub [0, 1, 2, 3, 4] rfl h
    by_cases c15 : ((xs x4.toNatClampNeg) &&& (63 : Int32)) = 15
    · have h := h.2.2.2.2.2.2.2.2.2.2.2.2.2.2.2.1 c15
      refine aw_tswIn (tgt := 774) dL_law_40 c15 (by decide) (by decide) (by first | rfl | decide) (by decide) ?_
      exact aw_sub [0, 1, 2, 3, 4] rfl h
    by_cases c16 : ((xs x4.toNatClampNeg) &&& (63 : Int32)) = 16
    · have h := h.2.2.2.2.2.2.2.2.2.2.2.2.2.2.2.2.1 c16
      refine aw_tswIn (tgt := 787) dL_law_40 c16 (by decide) (by decide) (by first | rfl | decide) (by decide) ?_
      exact aw_sub [0, 1, 2, 3, 4] rfl h
    by_cases c17 : ((xs x4.toNatClampNeg) &&& (63 : Int32)) = 17
    · have h := h.2.2.2.2.2.2.2.2.2.2.2.2.2.2.2.2.2.1 c17
      refine aw_tswIn (tgt := 824) dL_law_40 c17 (by decide) (by decide) (by first | rfl | decide) (by decide) ?_
      exact aw_sub [0, 1, 2, 3, 4] rfl h
    by_cases c18 : ((xs x4.toNatClampNeg) &&& (63 : Int32)) = 18
    · have h := h.2.2.2.2.2.2.2.2.2.2.2.2.2.2.2.2.2.2.1 c18
      refine aw_tswIn (tgt := 849) dL_law_40 c18 (by decide) (by decide) (by first | rfl | decide) (by decide) ?_
      exact aw_sub [0, 1, 2, 3, 4] rfl h
    by_cases c19 : ((xs x4.toNatClampNeg) &&& (63 : Int32)) = 19
    · have h := h.2.2.2.2.2.2.2.2.2.2.2.2.2.2.2.2.2.2.2.1 c19
      refine aw_tswIn (tgt := 874) dL_law_40 c19 (by decide) (by decide) (by first | rfl | decide) (by decide) ?_
      exact aw_sub [0, 1, 2, 3, 4] rfl h
    by_cases c20 : ((xs x4.toNatClampNeg) &&& (63 : Int32)) = 20
    · have h := h.2.2.2.2.2.2.2.2.2.2.2.2.2.2.2.2.2.2.2.2.1 c20
      refine aw_tswIn (tgt := 887) dL_law_40 c20 (by decide) (by decide) (by first | rfl | decide) (by decide) ?_
      exact aw_sub [0, 1, 2, 3, 4] rfl h
    by_cases c21 : ((xs x4.toNatClampNeg) &&& (63 : Int32)) = 21
    · have h := h.2.2.2.2.2.2.2.2.2.2.2.2.2.2.2.2.2.2.2.2.2.1 c21
      refine aw_tswIn (tgt := 912) dL_law_40 c21 (by decide) (by decide) (by first | rfl | decide) (by decide) ?_
      exact aw_sub [0, 1, 2, 3, 4] rfl h
    by_cases c22 : ((xs x4.toNatClampNeg) &&& (63 : Int32)) = 22
    · have h := h.2.2.2.2.2.2.2.2.2.2.2.2.2.2.2.2.2.2.2.2.2.2.1 c22
      refine aw_tswIn (tgt := 925) dL_law_40 c22 (by decide) (by decide) (by first | rfl | decide) (by decide) ?_
      exact aw_sub [0, 1, 2, 3, 4] rfl h
    by_cases c23 : ((xs x4.toNatClampNeg) &&& (63 : Int32)) = 23
    · have h := h.2.2.2.2.2.2.2.2.2.2.2.2.2.2.2.2.2.2.2.2.2.2.2.1 c23
      refine aw_tswIn (tgt := 938) dL_law_40 c23 (by decide) (by decide) (by first | rfl | decide) (by decide) ?_
      exact aw_sub [0, 1, 2, 3, 4] rfl h
    by_cases c24 : ((xs x4.toNatClampNeg) &&& (63 : Int32)) = 24
    · have h := h.2.2.2.2.2.2.2.2.2.2.2.2.2.2.2.2.2.2.2.2.2.2.2.2.1 c24
      refine aw_tswIn (tgt := 951) dL_law_40 c24 (by decide) (by decide) (by first | rfl | decide) (by decide) ?_
      exact aw_sub [0, 1, 2, 3, 4] rfl h
    by_cases c25 : ((xs x4.toNatClampNeg) &&& (63 : Int32)) = 25
    · have h := h.2.2.2.2.2.2.2.2.2.2.2.2.2.2.2.2.2.2.2.2.2.2.2.2.2.1 c25
      refine aw_tswIn (tgt := 988) dL_law_40 c25 (by decide) (by decide) (by first | rfl | decide) (by decide) ?_
      exact aw_sub [0, 1, 2, 3, 4] rfl h
    by_cases c26 : ((xs x4.toNatClampNeg) &&& (63 : Int32)) = 26
    · have h := h.2.2.2.2.2.2.2.2.2.2.2.2.2.2.2.2.2.2.2.2.2.2.2.2.2.2.1 c26
      refine aw_tswIn (tgt := 1037) dL_law_40 c26 (by decide) (by decide) (by first | rfl | decide) (by decide) ?_
      exact aw_sub [0, 1, 2, 3, 4] rfl h
    by_cases c27 : ((xs x4.toNatClampNeg) &&& (63 : Int32)) = 27
    · have h := h.2.2.2.2.2.2.2.2.2.2.2.2.2.2.2.2.2.2.2.2.2.2.2.2.2.2.2.1 c27
      refine aw_tswIn (tgt := 1086) dL_law_40 c27 (by decide) (by decide) (by first | rfl | decide) (by decide) ?_
      exact aw_sub [0, 1, 2, 3, 4] rfl h
    by_cases c28 : ((xs x4.toNatClampNeg) &&& (63 : Int32)) = 28
    · have h := h.2.2.2.2.2.2.2.2.2.2.2.2.2.2.2.2.2.2.2.2.2.2.2.2.2.2.2.2.1 c28
      refine aw_tswIn (tgt := 1111) dL_law_40 c28 (by decide) (by decide) (by first | rfl | decide) (by decide) ?_
      exact aw_sub [0, 1, 2, 3, 4] rfl h
    by_cases c29 : ((xs x4.toNatClampNeg) &&& (63 : Int32)) = 29
    · have h := h.2.2.2.2.2.2.2.2.2.2.2.2.2.2.2.2.2.2.2.2.2.2.2.2.2.2.2.2.2.1 c29
      refine aw_tswIn (tgt := 1160) dL_law_40 c29 (by decide) (by decide) (by first | rfl | decide) (by decide) ?_
      exact aw_sub [0, 1, 2, 3, 4] rfl h
    by_cases c30 : ((xs x4.toNatClampNeg) &&& (63 : Int32)) = 30
    · have h := h.2.2.2.2.2.2.2.2.2.2.2.2.2.2.2.2.2.2.2.2.2.2.2.2.2.2.2.2.2.2.1 c30
      refine aw_tswIn (tgt := 1185) dL_law_40 c30 (by decide) (by decide) (by first | rfl | decide) (by decide) ?_
      exact aw_sub [0, 1, 2, 3, 4] rfl h
    by_cases c31 : ((xs x4.toNatClampNeg) &&& (63 : Int32)) = 31
    · have h := h.2.2.2.2.2.2.2.2.2.2.2.2.2.2.2.2.2.2.2.2.2.2.2.2.2.2.2.2.2.2.2.1 c31
      refine aw_tswIn (tgt := 1222) dL_law_40 c31 (by decide) (by decide) (by first | rfl | decide) (by decide) ?_
      exact aw_sub [0, 1, 2, 3, 4] rfl h
    by_cases c32 : ((xs x4.toNatClampNeg) &&& (63 : Int32)) = 32
    · have h := h.2.2.2.2.2.2.2.2.2.2.2.2.2.2.2.2.2.2.2.2.2.2.2.2.2.2.2.2.2.2.2.2.1 c32
      refine aw_tswIn (tgt := 1247) dL_law_40 c32 (by decide) (by decide) (by first | rfl | decide) (by decide) ?_
      exact aw_sub [0, 1, 2, 3, 4] rfl h
    by_cases c33 : ((xs x4.toNatClampNeg) &&& (63 : Int32)) = 33
    · have h := h.2.2.2.2.2.2.2.2.2.2.2.2.2.2.2.2.2.2.2.2.2.2.2.2.2.2.2.2.2.2.2.2.2.1 c33
      refine aw_tswIn (tgt := 1260) dL_law_40 c33 (by decide) (by decide) (by first | rfl | decide) (by decide) ?_
      exact aw_sub [0, 1, 2, 3, 4] rfl h
    by_cases c34 : ((xs x4.toNatClampNeg) &&& (63 : Int32)) = 34
    · have h := h.2.2.2.2.2.2.2.2.2.2.2.2.2.2.2.2.2.2.2.2.2.2.2.2.2.2.2.2.2.2.2.2.2.2.1 c34
      refine aw_tswIn (tgt := 1285) dL_law_40 c34 (by decide) (by decide) (by first | rfl | decide) (by decide) ?_
      exact aw_sub [0, 1, 2, 3, 4] rfl h
    by_cases c35 : ((xs x4.toNatClampNeg) &&& (63 : Int32)) = 35
    · have h := h.2.2.2.2.2.2.2.2.2.2.2.2.2.2.2.2.2.2.2.2.2.2.2.2.2.2.2.2.2.2.2.2.2.2.2.1 c35
      refine aw_tswIn (tgt := 1334) dL_law_40 c35 (by decide) (by decide) (by first | rfl | decide) (by decide) ?_
      exact aw_sub [0, 1, 2, 3, 4] rfl h
    by_cases c36 : ((xs x4.toNatClampNeg) &&& (63 : Int32)) = 36
    · have h := h.2.2.2.2.2.2.2.2.2.2.2.2.2.2.2.2.2.2.2.2.2.2.2.2.2.2.2.2.2.2.2.2.2.2.2.2.1 c36
      refine aw_tswIn (tgt := 1347) dL_law_40 c36 (by decide) (by decide) (by first | rfl | decide) (by decide) ?_
      exact aw_sub [0, 1, 2, 3, 4] rfl h
    by_cases c37 : ((xs x4.toNatClampNeg) &&& (63 : Int32)) = 37
    · have h := h.2.2.2.2.2.2.2.2.2.2.2.2.2.2.2.2.2.2.2.2.2.2.2.2.2.2.2.2.2.2.2.2.2.2.2.2.2.1 c37
      refine aw_tswIn (tgt := 1360) dL_law_40 c37 (by decide) (by decide) (by first | rfl | decide) (by decide) ?_
      exact aw_sub [0, 1, 2, 3, 4] rfl h
    by_cases c38 : ((xs x4.toNatClampNeg) &&& (63 : Int32)) = 38
    · have h := h.2.2.2.2.2.2.2.2.2.2.2.2.2.2.2.2.2.2.2.2.2.2.2.2.2.2.2.2.2.2.2.2.2.2.2.2.2.2.1 c38
      refine aw_tswIn (tgt := 1397) dL_law_40 c38 (by decide) (by decide) (by first | rfl | decide) (by decide) ?_
      exact aw_sub [0, 1, 2, 3, 4] rfl h
    by_cases c39 : ((xs x4.toNatClampNeg) &&& (63 : Int32)) = 39
    · have h := h.2.2.2.2.2.2.2.2.2.2.2.2.2.2.2.2.2.2.2.2.2.2.2.2.2.2.2.2.2.2.2.2.2.2.2.2.2.2.2.1 c39
      refine aw_tswIn (tgt := 1422) dL_law_40 c39 (by decide) (by decide) (by first | rfl | decide) (by decide) ?_
      exact aw_sub [0, 1, 2, 3, 4] rfl h
    by_cases c40 : ((xs x4.toNatClampNeg) &&& (63 : Int32)) = 40
    · have h := h.2.2.2.2.2.2.2.2.2.2.2.2.2.2.2.2.2.2.2.2.2.2.2.2.2.2.2.2.2.2.2.2.2.2.2.2.2.2.2.2.1 c40
      refine aw_tswIn (tgt := 1447) dL_law_40 c40 (by decide) (by decide) (by first | rfl | decide) (by decide) ?_
      exact aw_sub [0, 1, 2, 3, 4] rfl h
    by_cases c41 : ((xs x4.toNatClampNeg) &&& (63 : Int32)) = 41
    · have h := h.2.2.2.2.2.2.2.2.2.2.2.2.2.2.2.2.2.2.2.2.2.2.2.2.2.2.2.2.2.2.2.2.2.2.2.2.2.2.2.2.2.1 c41
      refine aw_tswIn (tgt := 1472) dL_law_40 c41 (by decide) (by decide) (by first | rfl | decide) (by decide) ?_
      exact aw_sub [0, 1, 2, 3, 4] rfl h
    by_cases c42 : ((xs x4.toNatClampNeg) &&& (63 : Int32)) = 42
    · have h := h.2.2.2.2.2.2.2.2.2.2.2.2.2.2.2.2.2.2.2.2.2.2.2.2.2.2.2.2.2.2.2.2.2.2.2.2.2.2.2.2.2.2.1 c42
      refine aw_tswIn (tgt := 1497) dL_law_40 c42 (by decide) (by decide) (by first | rfl | decide) (by decide) ?_
      exact aw_sub [0, 1, 2, 3, 4] rfl h
    by_cases c43 : ((xs x4.toNatClampNeg) &&& (63 : Int32)) = 43
    · have h := h.2.2.2.2.2.2.2.2.2.2.2.2.2.2.2.2.2.2.2.2.2.2.2.2.2.2.2.2.2.2.2.2.2.2.2.2.2.2.2.2.2.2.2.1 c43
      refine aw_tswIn (tgt := 1522) dL_law_40 c43 (by decide) (by decide) (by first | rfl | decide) (by decide) ?_
      exact aw_sub [0, 1, 2, 3, 4] rfl h
    have h := h.2.2.2.2.2.2.2.2.2.2.2.2.2.2.2.2.2.2.2.2.2.2.2.2.2.2.2.2.2.2.2.2.2.2.2.2.2.2.2.2.2.2.2.2 c0 c1 c2 c3 c4 c5 c6 c7 c8 c9 c10 c11 c12 c13 c14 c15 c16 c17 c18 c19 c20 c21 c22 c23 c24 c25 c26 c27 c28 c29 c30 c31 c32 c33 c34 c35 c36 c37 c38 c39 c40 c41 c42 c43
    refine aw_tswOut (tgt := 1550) dL_law_40 (by have e0 := i32_ne (n := 0) c0 (by decide); have e1 := i32_ne (n := 1) c1 (by decide); have e2 := i32_ne (n := 2) c2 (by decide); have e3 := i32_ne (n := 3) c3 (by decide); have e4 := i32_ne (n := 4) c4 (by decide); have e5 := i32_ne (n := 5) c5 (by decide); have e6 := i32_ne (n := 6) c6 (by decide); have e7 := i32_ne (n := 7) c7 (by decide); have e8 := i32_ne (n := 8) c8 (by decide); have e9 := i32_ne (n := 9) c9 (by decide); have e10 := i32_ne (n := 10) c10 (by decide); have e11 := i32_ne (n := 11) c11 (by decide); have e12 := i32_ne (n := 12) c12 (by decide); have e13 := i32_ne (n := 13) c13 (by decide); have e14 := i32_ne (n := 14) c14 (by decide); have e15 := i32_ne (n := 15) c15 (by decide); have e16 := i32_ne (n := 16) c16 (by decide); have e17 := i32_ne (n := 17) c17 (by decide); have e18 := i32_ne (n := 18) c18 (by decide); have e19 := i32_ne (n := 19) c19 (by decide); have e20 := i32_ne (n := 20) c20 (by decide); have e21 := i32_ne (n := 21) c21 (by decide); have e22 := i32_ne (n := 22) c22 (by decide); have e23 := i32_ne (n := 23) c23 (by decide); have e24 := i32_ne (n := 24) c24 (by decide); have e25 := i32_ne (n := 25) c25 (by decide); have e26 := i32_ne (n := 26) c26 (by decide); have e27 := i32_ne (n := 27) c27 (by decide); have e28 := i32_ne (n := 28) c28 (by decide); have e29 := i32_ne (n := 29) c29 (by decide); have e30 := i32_ne (n := 30) c30 (by decide); have e31 := i32_ne (n := 31) c31 (by decide); have e32 := i32_ne (n := 32) c32 (by decide); have e33 := i32_ne (n := 33) c33 (by decide); have e34 := i32_ne (n := 34) c34 (by decide); have e35 := i32_ne (n := 35) c35 (by decide); have e36 := i32_ne (n := 36) c36 (by decide); have e37 := i32_ne (n := 37) c37 (by decide); have e38 := i32_ne (n := 38) c38 (by decide); have e39 := i32_ne (n := 39) c39 (by decide); have e40 := i32_ne (n := 40) c40 (by decide); have e41 := i32_ne (n := 41) c41 (by decide); have e42 := i32_ne (n := 42) c42 (by decide); have e43 := i32_ne (n := 43) c43 (by decide); omega) (by decide) ?_
    refine aw_iinc (j := 4) (v := x4 + (6 : Int32)) (L' := [(4, .int (x4 + (6 : Int32))), (0, .ref sb), (1, .ref (ad 0)), (2, .ref (ad 187)), (3, .ref (ad 217))]) dL_law_1550 rfl rfl (by decide) rfl ?_
    refine aw_goto (tgt := 23) dL_law_1553 (by decide) ?_
    exact aw_drop (Nat.le_succ _) (Nat.le_add_right _ _) (aw_sub [1, 2, 3, 4, 0] rfl h)
set_option maxRecDepth 100000 in
set_option maxHeartbeats 4000000 in
theorem g_L_law_232 {ad : Nat → Nat} {sb Ls kc ks : Nat} {xs : Nat → Int32} {d : Nat} {Q : Option Value → Wm → Prop} {m : Wm} {x4 : Int32} (h : (vp_in (x4 + (1 : Int32)) Ls ∧ (Ct ad μX11_sign d [.ref (ad 0), .int (xs (x4 + (1 : Int32)).toNatClampNeg)] m (fun r m1 => ∃ v2 : Int32, r = some (.int v2) ∧ (vp_in (x4 + (1 : Int32)) Ls ∧ (Ct ad μX12_sign d [.ref (ad 187), .int (xs (x4 + (1 : Int32)).toNatClampNeg)] m1 (fun r m3 => ∃ v4 : Int32, r = some (.int v4) ∧ AWl LAY ad (EX (SX sb Ls xs) kc ks LAY) μL_law (d + 1) Q 23 [(0, .ref sb), (1, .ref (ad 0)), (2, .ref (ad 187)), (3, .ref (ad 217)), (4, .int (x4 + (6 : Int32)))] [] m3))))))) : AWl LAY ad (EX (SX sb Ls xs) (kc + 1) (ks + 6) LAY) μL_law (d + 1) Q 232 [(0, .ref sb), (1, .ref (ad 0)), (2, .ref (ad 187)), (3, .ref (ad 217)), (4, .int x4)] [] m := by
  refine aw_aload_n (j := 1) dL_law_232 rfl rfl ?_
  refine aw_aload_n (j := 0) dL_law_233 rfl rfl ?_
  refine aw_iload (j := 4) dL_law_234 rfl ?_
  refine aw_iconst (v := 1) dL_law_236 (by decide) ?_
  refine aw_iadd dL_law_237 ?_
  obtain ⟨hi, h⟩ := h
  refine aw_sld dL_law_238 hi ?_
  refine aw_callV (rest := []) [.int (xs (x4 + (1 : Int32)).toNatClampNeg)] dL_law_239 ly_0 rfl k_L_23 rfl h (Nat.le_of_ble_eq_true rfl) (fun v m1 h => ?_)
  obtain ⟨v2, rfl, h⟩ := h
  refine aw_eq (L' := [(0, .ref sb), (1, .ref (ad 0)), (2, .ref (ad 187)), (3, .ref (ad 217)), (4, .int x4)]) (st' := [.int v2]) (m' := m1) ?_ rfl rfl rfl
  refine aw_pop dL_law_242 rfl ?_
  refine aw_aload_n (j := 2) dL_law_243 rfl rfl ?_
  refine aw_aload_n (j := 0) dL_law_244 rfl rfl ?_
  refine aw_iload (j := 4) dL_law_245 rfl ?_
  refine aw_iconst (v := 1) dL_law_247 (by decide) ?_
  refine aw_iadd dL_law_248 ?_
  obtain ⟨hi, h⟩ := h
  refine aw_sld dL_law_249 hi ?_
  refine aw_callV (rest := []) [.int (xs (x4 + (1 : Int32)).toNatClampNeg)] dL_law_250 ly_187 rfl k_L_27 rfl h (Nat.le_of_ble_eq_true rfl) (fun v m3 h => ?_)
  obtain ⟨v4, rfl, h⟩ := h
  refine aw_eq (L' := [(0, .ref sb), (1, .ref (ad 0)), (2, .ref (ad 187)), (3, .ref (ad 217)), (4, .int x4)]) (st' := [.int v4]) (m' := m3) ?_ rfl rfl rfl
  refine aw_pop dL_law_253 rfl ?_
  refine aw_goto (tgt := 1550) dL_law_254 (by decide) ?_
  refine aw_iinc (j := 4) (v := x4 + (6 : Int32)) (L' := [(4, .int (x4 + (6 : Int32))), (0, .ref sb), (1, .ref (ad 0)), (2, .ref (ad 187)), (3, .ref (ad 217))]) dL_law_1550 rfl rfl (by decide) rfl ?_
  refine aw_goto (tgt := 23) dL_law_1553 (by decide) ?_
  exact aw_drop (Nat.le_succ _) (Nat.le_add_right _ _) (aw_sub [1, 2, 3, 4, 0] rfl h)
set_option maxRecDepth 100000 in
set_option maxHeartbeats 4000000 in
theorem g_L_law_257 {ad : Nat → Nat} {sb Ls kc ks : Nat} {xs : Nat → Int32} {d : Nat} {Q : Option Value → Wm → Prop} {m : Wm} {x4 : Int32} (h : (vp_in (x4 + (1 : Int32)) Ls ∧ (Ct ad μX11_end d [.ref (ad 0), .int (xs (x4 + (1 : Int32)).toNatClampNeg)] m (fun r m1 => ∃ v2 : Int32, r = some (.int v2) ∧ (vp_in (x4 + (1 : Int32)) Ls ∧ (Ct ad μX12_end d [.ref (ad 187), .int (xs (x4 + (1 : Int32)).toNatClampNeg)] m1 (fun r m3 => ∃ v4 : Int32, r = some (.int v4) ∧ AWl LAY ad (EX (SX sb Ls xs) kc ks LAY) μL_law (d + 1) Q 23 [(0, .ref sb), (1, .ref (ad 0)), (2, .ref (ad 187)), (3, .ref (ad 217)), (4, .int (x4 + (6 : Int32)))] [] m3))))))) : AWl LAY ad (EX (SX sb Ls xs) (kc + 1) (ks + 6) LAY) μL_law (d + 1) Q 257 [(0, .ref sb), (1, .ref (ad 0)), (2, .ref (ad 187)), (3, .ref (ad 217)), (4, .int x4)] [] m := by
  refine aw_aload_n (j := 1) dL_law_257 rfl rfl ?_
  refine aw_aload_n (j := 0) dL_law_258 rfl rfl ?_
  refine aw_iload (j := 4) dL_law_259 rfl ?_
  refine aw_iconst (v := 1) dL_law_261 (by decide) ?_
  refine aw_iadd dL_law_262 ?_
  obtain ⟨hi, h⟩ := h
  refine aw_sld dL_law_263 hi ?_
  refine aw_callV (rest := []) [.int (xs (x4 + (1 : Int32)).toNatClampNeg)] dL_law_264 ly_0 rfl k_L_28 rfl h (Nat.le_of_ble_eq_true rfl) (fun v m1 h => ?_)
  obtain ⟨v2, rfl, h⟩ := h
  refine aw_eq (L' := [(0, .ref sb), (1, .ref (ad 0)), (2, .ref (ad 187)), (3, .ref (ad 217)), (4, .int x4)]) (st' := [.int v2]) (m' := m1) ?_ rfl rfl rfl
  refine aw_pop dL_law_267 rfl ?_
  refine aw_aload_n (j := 2) dL_law_268 rfl rfl ?_
  refine aw_aload_n (j := 0) dL_law_269 rfl rfl ?_
  refine aw_iload (j := 4) dL_law_270 rfl ?_
  refine aw_iconst (v := 1) dL_law_272 (by decide) ?_
  refine aw_iadd dL_law_273 ?_
  obtain ⟨hi, h⟩ := h
  refine aw_sld dL_law_274 hi ?_
  refine aw_callV (rest := []) [.int (xs (x4 + (1 : Int32)).toNatClampNeg)] dL_law_275 ly_187 rfl k_L_32 rfl h (Nat.le_of_ble_eq_true rfl) (fun v m3 h => ?_)
  obtain ⟨v4, rfl, h⟩ := h
  refine aw_eq (L' := [(0, .ref sb), (1, .ref (ad 0)), (2, .ref (ad 187)), (3, .ref (ad 217)), (4, .int x4)]) (st' := [.int v4]) (m' := m3) ?_ rfl rfl rfl
  refine aw_pop dL_law_278 rfl ?_
  refine aw_goto (tgt := 1550) dL_law_279 (by decide) ?_
  refine aw_iinc (j := 4) (v := x4 + (6 : Int32)) (L' := [(4, .int (x4 + (6 : Int32))), (0, .ref sb), (1, .ref (ad 0)), (2, .ref (ad 187)), (3, .ref (ad 217))]) dL_law_1550 rfl rfl (by decide) rfl ?_
  refine aw_goto (tgt := 23) dL_law_1553 (by decide) ?_
  exact aw_drop (Nat.le_succ _) (Nat.le_add_right _ _) (aw_sub [1, 2, 3, 4, 0] rfl h)
set_option maxRecDepth 100000 in
set_option maxHeartbeats 4000000 in
theorem g_L_law_282 {ad : Nat → Nat} {sb Ls kc ks : Nat} {xs : Nat → Int32} {d : Nat} {Q : Option Value → Wm → Prop} {m : Wm} {x4 : Int32} (h : (Ct ad μX11_league d [.ref (ad 0)] m (fun r m1 => ∃ v2 : Int32, r = some (.int v2) ∧ (Ct ad μX12_league d [.ref (ad 187)] m1 (fun r m3 => ∃ v4 : Int32, r = some (.int v4) ∧ AWl LAY ad (EX (SX sb Ls xs) kc ks LAY) μL_law (d + 1) Q 23 [(0, .ref sb), (1, .ref (ad 0)), (2, .ref (ad 187)), (3, .ref (ad 217)), (4, .int (x4 + (6 : Int32)))] [] m3))))) : AWl LAY ad (EX (SX sb Ls xs) (kc + 1) (ks + 6) LAY) μL_law (d + 1) Q 282 [(0, .ref sb), (1, .ref (ad 0)), (2, .ref (ad 187)), (3, .ref (ad 217)), (4, .int x4)] [] m := by
  refine aw_aload_n (j := 1) dL_law_282 rfl rfl ?_
  refine aw_callV (rest := []) [] dL_law_283 ly_0 rfl k_L_33 rfl h (Nat.le_of_ble_eq_true rfl) (fun v m1 h => ?_)
  obtain ⟨v2, rfl, h⟩ := h
  refine aw_eq (L' := [(0, .ref sb), (1, .ref (ad 0)), (2, .ref (ad 187)), (3, .ref (ad 217)), (4, .int x4)]) (st' := [.int v2]) (m' := m1) ?_ rfl rfl rfl
  refine aw_pop dL_law_286 rfl ?_
  refine aw_aload_n (j := 2) dL_law_287 rfl rfl ?_
  refine aw_callV (rest := []) [] dL_law_288 ly_187 rfl k_L_37 rfl h (Nat.le_of_ble_eq_true rfl) (fun v m3 h => ?_)
  obtain ⟨v4, rfl, h⟩ := h
  refine aw_eq (L' := [(0, .ref sb), (1, .ref (ad 0)), (2, .ref (ad 187)), (3, .ref (ad 217)), (4, .int x4)]) (st' := [.int v4]) (m' := m3) ?_ rfl rfl rfl
  refine aw_pop dL_law_291 rfl ?_
  refine aw_goto (tgt := 1550) dL_law_292 (by decide) ?_
  refine aw_iinc (j := 4) (v := x4 + (6 : Int32)) (L' := [(4, .int (x4 + (6 : Int32))), (0, .ref sb), (1, .ref (ad 0)), (2, .ref (ad 187)), (3, .ref (ad 217))]) dL_law_1550 rfl rfl (by decide) rfl ?_
  refine aw_goto (tgt := 23) dL_law_1553 (by decide) ?_
  exact aw_drop (Nat.le_succ _) (Nat.le_add_right _ _) (aw_sub [1, 2, 3, 4, 0] rfl h)
set_option maxRecDepth 100000 in
set_option maxHeartbeats 4000000 in
theorem g_L_law_295 {ad : Nat → Nat} {sb Ls kc ks : Nat} {xs : Nat → Int32} {d : Nat} {Q : Option Value → Wm → Prop} {m : Wm} {x4 : Int32} (h : (Ct ad μX11_rule d [.ref (ad 0)] m (fun r m1 => ∃ v2 : Int32, r = some (.int v2) ∧ (Ct ad μX12_rule d [.ref (ad 187)] m1 (fun r m3 => ∃ v4 : Int32, r = some (.int v4) ∧ AWl LAY ad (EX (SX sb Ls xs) kc ks LAY) μL_law (d + 1) Q 23 [(0, .ref sb), (1, .ref (ad 0)), (2, .ref (ad 187)), (3, .ref (ad 217)), (4, .int (x4 + (6 : Int32)))] [] m3))))) : AWl LAY ad (EX (SX sb Ls xs) (kc + 1) (ks + 6) LAY) μL_law (d + 1) Q 295 [(0, .ref sb), (1, .ref (ad 0)), (2, .ref (ad 187)), (3, .ref (ad 217)), (4, .int x4)] [] m := by
  refine aw_aload_n (j := 1) dL_law_295 rfl rfl ?_
  refine aw_callV (rest := []) [] dL_law_296 ly_0 rfl k_L_38 rfl h (Nat.le_of_ble_eq_true rfl) (fun v m1 h => ?_)
  obtain ⟨v2, rfl, h⟩ := h
  refine aw_eq (L' := [(0, .ref sb), (1, .ref (ad 0)), (2, .ref (ad 187)), (3, .ref (ad 217)), (4, .int x4)]) (st' := [.int v2]) (m' := m1) ?_ rfl rfl rfl
  refine aw_pop dL_law_299 rfl ?_
  refine aw_aload_n (j := 2) dL_law_300 rfl rfl ?_
  refine aw_callV (rest := []) [] dL_law_301 ly_187 rfl k_L_41 rfl h (Nat.le_of_ble_eq_true rfl) (fun v m3 h => ?_)
  obtain ⟨v4, rfl, h⟩ := h
  refine aw_eq (L' := [(0, .ref sb), (1, .ref (ad 0)), (2, .ref (ad 187)), (3, .ref (ad 217)), (4, .int x4)]) (st' := [.int v4]) (m' := m3) ?_ rfl rfl rfl
  refine aw_pop dL_law_304 rfl ?_
  refine aw_goto (tgt := 1550) dL_law_305 (by decide) ?_
  refine aw_iinc (j := 4) (v := x4 + (6 : Int32)) (L' := [(4, .int (x4 + (6 : Int32))), (0, .ref sb), (1, .ref (ad 0)), (2, .ref (ad 187)), (3, .ref (ad 217))]) dL_law_1550 rfl rfl (by decide) rfl ?_
  refine aw_goto (tgt := 23) dL_law_1553 (by decide) ?_
  exact aw_drop (Nat.le_succ _) (Nat.le_add_right _ _) (aw_sub [1, 2, 3, 4, 0] rfl h)
set_option maxRecDepth 100000 in
set_option maxHeartbeats 4000000 in
theorem g_L_law_308 {ad : Nat → Nat} {sb Ls kc ks : Nat} {xs : Nat → Int32} {d : Nat} {Q : Option Value → Wm → Prop} {m : Wm} {x4 : Int32} (h : (Ct ad μX11_plan d [.ref (ad 0)] m (fun r m1 => ∃ v2 : Int32, r = some (.int v2) ∧ (Ct ad μX12_plan d [.ref (ad 187)] m1 (fun r m3 => ∃ v4 : Int32, r = some (.int v4) ∧ AWl LAY ad (EX (SX sb Ls xs) kc ks LAY) μL_law (d + 1) Q 23 [(0, .ref sb), (1, .ref (ad 0)), (2, .ref (ad 187)), (3, .ref (ad 217)), (4, .int (x4 + (6 : Int32)))] [] m3))))) : AWl LAY ad (EX (SX sb Ls xs) (kc + 1) (ks + 6) LAY) μL_law (d + 1) Q 308 [(0, .ref sb), (1, .ref (ad 0)), (2, .ref (ad 187)), (3, .ref (ad 217)), (4, .int x4)] [] m := by
  refine aw_aload_n (j := 1) dL_law_308 rfl rfl ?_
  refine aw_callV (rest := []) [] dL_law_309 ly_0 rfl k_L_42 rfl h (Nat.le_of_ble_eq_true rfl) (fun v m1 h => ?_)
  obtain ⟨v2, rfl, h⟩ := h
  refine aw_eq (L' := [(0, .ref sb), (1, .ref (ad 0)), (2, .ref (ad 187)), (3, .ref (ad 217)), (4, .int x4)]) (st' := [.int v2]) (m' := m1) ?_ rfl rfl rfl
  refine aw_pop dL_law_312 rfl ?_
  refine aw_aload_n (j := 2) dL_law_313 rfl rfl ?_
  refine aw_callV (rest := []) [] dL_law_314 ly_187 rfl k_L_45 rfl h (Nat.le_of_ble_eq_true rfl) (fun v m3 h => ?_)
  obtain ⟨v4, rfl, h⟩ := h
  refine aw_eq (L' := [(0, .ref sb), (1, .ref (ad 0)), (2, .ref (ad 187)), (3, .ref (ad 217)), (4, .int x4)]) (st' := [.int v4]) (m' := m3) ?_ rfl rfl rfl
  refine aw_pop dL_law_317 rfl ?_
  refine aw_goto (tgt := 1550) dL_law_318 (by decide) ?_
  refine aw_iinc (j := 4) (v := x4 + (6 : Int32)) (L' := [(4, .int (x4 + (6 : Int32))), (0, .ref sb), (1, .ref (ad 0)), (2, .ref (ad 187)), (3, .ref (ad 217))]) dL_law_1550 rfl rfl (by decide) rfl ?_
  refine aw_goto (tgt := 23) dL_law_1553 (by decide) ?_
  exact aw_drop (Nat.le_succ _) (Nat.le_add_right _ _) (aw_sub [1, 2, 3, 4, 0] rfl h)
set_option maxRecDepth 100000 in
set_option maxHeartbeats 4000000 in
theorem g_L_law_321 {ad : Nat → Nat} {sb Ls kc ks : Nat} {xs : Nat → Int32} {d : Nat} {Q : Option Value → Wm → Prop} {m : Wm} {x4 : Int32} (h : (vp_in (x4 + (1 : Int32)) Ls ∧ (vp_in (x4 + (2 : Int32)) Ls ∧ (Ct ad μX11_skill d [.ref (ad 0), .int (xs (x4 + (1 : Int32)).toNatClampNeg), .int (xs (x4 + (2 : Int32)).toNatClampNeg)] m (fun r m1 => ∃ v2 : Int32, r = some (.int v2) ∧ (vp_in (x4 + (1 : Int32)) Ls ∧ (vp_in (x4 + (2 : Int32)) Ls ∧ (Ct ad μX12_skill d [.ref (ad 187), .int (xs (x4 + (1 : Int32)).toNatClampNeg), .int (xs (x4 + (2 : Int32)).toNatClampNeg)] m1 (fun r m3 => ∃ v4 : Int32, r = some (.int v4) ∧ AWl LAY ad (EX (SX sb Ls xs) kc ks LAY) μL_law (d + 1) Q 23 [(0, .ref sb), (1, .ref (ad 0)), (2, .ref (ad 187)), (3, .ref (ad 217)), (4, .int (x4 + (6 : Int32)))] [] m3))))))))) : AWl LAY ad (EX (SX sb Ls xs) (kc + 1) (ks + 6) LAY) μL_law (d + 1) Q 321 [(0, .ref sb), (1, .ref (ad 0)), (2, .ref (ad 187)), (3, .ref (ad 217)), (4, .int x4)] [] m := by
  refine aw_aload_n (j := 1) dL_law_321 rfl rfl ?_
  refine aw_aload_n (j := 0) dL_law_322 rfl rfl ?_
  refine aw_iload (j := 4) dL_law_323 rfl ?_
  refine aw_iconst (v := 1) dL_law_325 (by decide) ?_
  refine aw_iadd dL_law_326 ?_
  obtain ⟨hi, h⟩ := h
  refine aw_sld dL_law_327 hi ?_
  refine aw_aload_n (j := 0) dL_law_328 rfl rfl ?_
  refine aw_iload (j := 4) dL_law_329 rfl ?_
  refine aw_iconst (v := 2) dL_law_331 (by decide) ?_
  refine aw_iadd dL_law_332 ?_
  obtain ⟨hi, h⟩ := h
  refine aw_sld dL_law_333 hi ?_
  refine aw_callV (rest := []) [.int (xs (x4 + (1 : Int32)).toNatClampNeg), .int (xs (x4 + (2 : Int32)).toNatClampNeg)] dL_law_334 ly_0 rfl k_L_46 rfl h (Nat.le_of_ble_eq_true rfl) (fun v m1 h => ?_)
  obtain ⟨v2, rfl, h⟩ := h
  refine aw_eq (L' := [(0, .ref sb), (1, .ref (ad 0)), (2, .ref (ad 187)), (3, .ref (ad 217)), (4, .int x4)]) (st' := [.int v2]) (m' := m1) ?_ rfl rfl rfl
  refine aw_pop dL_law_337 rfl ?_
  refine aw_aload_n (j := 2) dL_law_338 rfl rfl ?_
  refine aw_aload_n (j := 0) dL_law_339 rfl rfl ?_
  refine aw_iload (j := 4) dL_law_340 rfl ?_
  refine aw_iconst (v := 1) dL_law_342 (by decide) ?_
  refine aw_iadd dL_law_343 ?_
  obtain ⟨hi, h⟩ := h
  refine aw_sld dL_law_344 hi ?_
  refine aw_aload_n (j := 0) dL_law_345 rfl rfl ?_
  refine aw_iload (j := 4) dL_law_346 rfl ?_
  refine aw_iconst (v := 2) dL_law_348 (by decide) ?_
  refine aw_iadd dL_law_349 ?_
  obtain ⟨hi, h⟩ := h
  refine aw_sld dL_law_350 hi ?_
  refine aw_callV (rest := []) [.int (xs (x4 + (1 : Int32)).toNatClampNeg), .int (xs (x4 + (2 : Int32)).toNatClampNeg)] dL_law_351 ly_187 rfl k_L_49 rfl h (Nat.le_of_ble_eq_true rfl) (fun v m3 h => ?_)
  obtain ⟨v4, rfl, h⟩ := h
  refine aw_eq (L' := [(0, .ref sb), (1, .ref (ad 0)), (2, .ref (ad 187)), (3, .ref (ad 217)), (4, .int x4)]) (st' := [.int v4]) (m' := m3) ?_ rfl rfl rfl
  refine aw_pop dL_law_354 rfl ?_
  refine aw_goto (tgt := 1550) dL_law_355 (by decide) ?_
  refine aw_iinc (j := 4) (v := x4 + (6 : Int32)) (L' := [(4, .int (x4 + (6 : Int32))), (0, .ref sb), (1, .ref (ad 0)), (2, .ref (ad 187)), (3, .ref (ad 217))]) dL_law_1550 rfl rfl (by decide) rfl ?_
  refine aw_goto (tgt := 23) dL_law_1553 (by decide) ?_
  exact aw_drop (Nat.le_succ _) (Nat.le_add_right _ _) (aw_sub [1, 2, 3, 4, 0] rfl h)
set_option maxRecDepth 100000 in
set_option maxHeartbeats 4000000 in
theorem g_L_law_358 {ad : Nat → Nat} {sb Ls kc ks : Nat} {xs : Nat → Int32} {d : Nat} {Q : Option Value → Wm → Prop} {m : Wm} {x4 : Int32} (h : (vp_in (x4 + (1 : Int32)) Ls ∧ (vp_in (x4 + (2 : Int32)) Ls ∧ (Ctg ad μL_of hL_of d 1 6 [.ref (ad 0), .int (xs (x4 + (1 : Int32)).toNatClampNeg), .int (xs (x4 + (2 : Int32)).toNatClampNeg), .ref (ad 217)] m (fun r m1 => ∃ v2 : Int32, r = some (.int v2) ∧ (vp_in (x4 + (1 : Int32)) Ls ∧ (vp_in (x4 + (2 : Int32)) Ls ∧ (Ct ad μX12_of d [.ref (ad 187), .int (xs (x4 + (1 : Int32)).toNatClampNeg), .int (xs (x4 + (2 : Int32)).toNatClampNeg)] m1 (fun r m3 => ∃ v4 : Int32, r = some (.int v4) ∧ (Ct ad μX12_thrown d [.ref (ad 187)] m3 (fun r m5 => ∃ v6 : Int32, r = some (.int v6) ∧ ((v6 = v2 → ((¬ v2 = 0 → AWl LAY ad (EX (SX sb Ls xs) kc ks LAY) μL_law (d + 1) Q 23 [(0, .ref sb), (1, .ref (ad 0)), (2, .ref (ad 187)), (3, .ref (ad 217)), (4, .int (x4 + (6 : Int32)))] [] m5) ∧ (v2 = 0 → (((lg_cmp (m5.2.1 217 (0 : Int32).toNatClampNeg) v4.toInt64) = 0 → AWl LAY ad (EX (SX sb Ls xs) kc ks LAY) μL_law (d + 1) Q 23 [(0, .ref sb), (1, .ref (ad 0)), (2, .ref (ad 187)), (3, .ref (ad 217)), (4, .int (x4 + (6 : Int32)))] [] m5) ∧ (¬ (lg_cmp (m5.2.1 217 (0 : Int32).toNatClampNeg) v4.toInt64) = 0 → Q (some (.int (0 : Int32))) m5))))) ∧ (¬ v6 = v2 → Q (some (.int (0 : Int32))) m5))))))))))))) : AWl LAY ad (EX (SX sb Ls xs) (kc + 1) (ks + 6) LAY) μL_law (d + 1) Q 358 [(0, .ref sb), (1, .ref (ad 0)), (2, .ref (ad 187)), (3, .ref (ad 217)), (4, .int x4)] [] m := by
  refine aw_aload_n (j := 1) dL_law_358 rfl rfl ?_
  refine aw_aload_n (j := 0) dL_law_359 rfl rfl ?_
  refine aw_iload (j := 4) dL_law_360 rfl ?_
  refine aw_iconst (v := 1) dL_law_362 (by decide) ?_
  refine aw_iadd dL_law_363 ?_
  obtain ⟨hi, h⟩ := h
  refine aw_sld dL_law_364 hi ?_
  refine aw_aload_n (j := 0) dL_law_365 rfl rfl ?_
  refine aw_iload (j := 4) dL_law_366 rfl ?_
  refine aw_iconst (v := 2) dL_law_368 (by decide) ?_
  refine aw_iadd dL_law_369 ?_
  obtain ⟨hi, h⟩ := h
  refine aw_sld dL_law_370 hi ?_
  refine aw_aload_n (j := 3) dL_law_371 rfl rfl ?_
  refine aw_callSg (rest := []) [.ref (ad 0), .int (xs (x4 + (1 : Int32)).toNatClampNeg), .int (xs (x4 + (2 : Int32)).toNatClampNeg), .ref (ad 217)] dL_law_372 k_L_50 rfl h (Nat.le_of_ble_eq_true rfl) (fun v m1 h => ?_)
  obtain ⟨v2, rfl, h⟩ := h
  refine aw_eq (L' := [(0, .ref sb), (1, .ref (ad 0)), (2, .ref (ad 187)), (3, .ref (ad 217)), (4, .int x4)]) (st' := [.int v2]) (m' := m1) ?_ rfl rfl rfl
  refine aw_istore (L' := [(5, .int v2), (0, .ref sb), (1, .ref (ad 0)), (2, .ref (ad 187)), (3, .ref (ad 217)), (4, .int x4)]) dL_law_375 (by decide) rfl ?_
  refine aw_aload_n (j := 3) dL_law_377 rfl rfl ?_
  refine aw_aload_n (j := 1) dL_law_378 rfl rfl ?_
  refine aw_iload (j := 5) dL_law_379 rfl ?_
  refine aw_iconst (v := 1) dL_law_381 (by decide) ?_
  refine aw_iadd dL_law_382 ?_
  obtain ⟨hi, h⟩ := h
  refine aw_sld dL_law_383 hi ?_
  refine aw_aload_n (j := 1) dL_law_384 rfl rfl ?_
  refine aw_iload (j := 5) dL_law_385 rfl ?_
  refine aw_iconst (v := 2) dL_law_387 (by decide) ?_
  refine aw_iadd dL_law_388 ?_
  obtain ⟨hi, h⟩ := h
  refine aw_sld dL_law_389 hi ?_
  refine aw_callV (rest := []) [.int (xs (x4 + (1 : Int32)).toNatClampNeg), .int (xs (x4 + (2 : Int32)).toNatClampNeg)] dL_law_390 ly_187 rfl k_L_55 rfl h (Nat.le_of_ble_eq_true rfl) (fun v m3 h => ?_)
  obtain ⟨v4, rfl, h⟩ := h
  refine aw_eq (L' := [(5, .int v2), (0, .ref sb), (1, .ref (ad 0)), (2, .ref (ad 187)), (3, .ref (ad 217)), (4, .int x4)]) (st' := [.int v4]) (m' := m3) ?_ rfl rfl rfl
  refine aw_istore (L' := [(6, .int v4), (5, .int v2), (0, .ref sb), (1, .ref (ad 0)), (2, .ref (ad 187)), (3, .ref (ad 217)), (4, .int x4)]) dL_law_393 (by decide) rfl ?_
  refine aw_aload_n (j := 4) dL_law_395 rfl rfl ?_
  refine aw_callV (rest := []) [] dL_law_396 ly_187 rfl k_L_56 rfl h (Nat.le_of_ble_eq_true rfl) (fun v m5 h => ?_)
  obtain ⟨v6, rfl, h⟩ := h
  refine aw_eq (L' := [(6, .int v4), (5, .int v2), (0, .ref sb), (1, .ref (ad 0)), (2, .ref (ad 187)), (3, .ref (ad 217)), (4, .int x4)]) (st' := [.int v6]) (m' := m5) ?_ rfl rfl rfl
  refine aw_iload (j := 1) dL_law_399 rfl ?_
  refine aw_icmp_eq (tgt := 406) dL_law_401 (by decide) (fun hc => ?_) (fun hc => ?_)
  · have h := h.1 hc
    refine aw_iload (j := 1) dL_law_406 rfl ?_
    refine aw_if_ne (tgt := 423) dL_law_408 (by decide) (fun hc => ?_) (fun hc => ?_)
    · have h := h.1 hc
      refine aw_goto (tgt := 1550) dL_law_423 (by decide) ?_
      refine aw_iinc (j := 6) (v := x4 + (6 : Int32)) (L' := [(4, .int (x4 + (6 : Int32))), (6, .int v4), (5, .int v2), (0, .ref sb), (1, .ref (ad 0)), (2, .ref (ad 187)), (3, .ref (ad 217))]) dL_law_1550 rfl rfl (by decide) rfl ?_
      refine aw_goto (tgt := 23) dL_law_1553 (by decide) ?_
      exact aw_sub [3, 4, 5, 6, 0] rfl h
    · have h := h.2 hc
      refine aw_aload_n (j := 5) dL_law_411 rfl rfl ?_
      refine aw_iconst (v := 0) dL_law_412 (by decide) ?_
      refine aw_laload dL_law_413 ly_217 (by unfold vp_in; decide) ?_
      refine aw_iload (j := 0) dL_law_414 rfl ?_
      refine aw_i2l dL_law_416 ?_
      refine aw_lcmp dL_law_417 ?_
      refine aw_if_eq (tgt := 423) dL_law_418 (by decide) (fun hc => ?_) (fun hc => ?_)
      · have h := h.1 hc
        refine aw_goto (tgt := 1550) dL_law_423 (by decide) ?_
        refine aw_iinc (j := 6) (v := x4 + (6 : Int32)) (L' := [(4, .int (x4 + (6 : Int32))), (6, .int v4), (5, .int v2), (0, .ref sb), (1, .ref (ad 0)), (2, .ref (ad 187)), (3, .ref (ad 217))]) dL_law_1550 rfl rfl (by decide) rfl ?_
        refine aw_goto (tgt := 23) dL_law_1553 (by decide) ?_
        exact aw_sub [3, 4, 5, 6, 0] rfl h
      · have h := h.2 hc
        refine aw_iconst (v := 0) dL_law_421 (by decide) ?_
        exact aw_ret (v := some (.int (0 : Int32))) rfl (Or.inr (Or.inl ⟨_, .boolean, rfl, rfl, by decide, dL_law_422⟩)) h
  · have h := h.2 hc
    refine aw_iconst (v := 0) dL_law_404 (by decide) ?_
    exact aw_ret (v := some (.int (0 : Int32))) rfl (Or.inr (Or.inl ⟨_, .boolean, rfl, rfl, by decide, dL_law_405⟩)) h
set_option maxRecDepth 100000 in
set_option maxHeartbeats 4000000 in
theorem g_L_law_426 {ad : Nat → Nat} {sb Ls kc ks : Nat} {xs : Nat → Int32} {d : Nat} {Q : Option Value → Wm → Prop} {m : Wm} {x4 : Int32} (h : (vp_in (x4 + (1 : Int32)) Ls ∧ (vp_in (x4 + (2 : Int32)) Ls ∧ (Ct ad μX11_law d [.ref (ad 0), .int (xs (x4 + (1 : Int32)).toNatClampNeg), .int (xs (x4 + (2 : Int32)).toNatClampNeg)] m (fun r m1 => ∃ v2 : Int32, r = some (.int v2) ∧ (vp_in (x4 + (1 : Int32)) Ls ∧ (vp_in (x4 + (2 : Int32)) Ls ∧ (Ct ad μX12_law d [.ref (ad 187), .int (xs (x4 + (1 : Int32)).toNatClampNeg), .int (xs (x4 + (2 : Int32)).toNatClampNeg)] m1 (fun r m3 => ∃ v4 : Int32, r = some (.int v4) ∧ AWl LAY ad (EX (SX sb Ls xs) kc ks LAY) μL_law (d + 1) Q 23 [(0, .ref sb), (1, .ref (ad 0)), (2, .ref (ad 187)), (3, .ref (ad 217)), (4, .int (x4 + (6 : Int32)))] [] m3))))))))) : AWl LAY ad (EX (SX sb Ls xs) (kc + 1) (ks + 6) LAY) μL_law (d + 1) Q 426 [(0, .ref sb), (1, .ref (ad 0)), (2, .ref (ad 187)), (3, .ref (ad 217)), (4, .int x4)] [] m := by
  refine aw_aload_n (j := 1) dL_law_426 rfl rfl ?_
  refine aw_aload_n (j := 0) dL_law_427 rfl rfl ?_
  refine aw_iload (j := 4) dL_law_428 rfl ?_
  refine aw_iconst (v := 1) dL_law_430 (by decide) ?_
  refine aw_iadd dL_law_431 ?_
  obtain ⟨hi, h⟩ := h
  refine aw_sld dL_law_432 hi ?_
  refine aw_aload_n (j := 0) dL_law_433 rfl rfl ?_
  refine aw_iload (j := 4) dL_law_434 rfl ?_
  refine aw_iconst (v := 2) dL_law_436 (by decide) ?_
  refine aw_iadd dL_law_437 ?_
  obtain ⟨hi, h⟩ := h
  refine aw_sld dL_law_438 hi ?_
  refine aw_callV (rest := []) [.int (xs (x4 + (1 : Int32)).toNatClampNeg), .int (xs (x4 + (2 : Int32)).toNatClampNeg)] dL_law_439 ly_0 rfl k_L_59 rfl h (Nat.le_of_ble_eq_true rfl) (fun v m1 h => ?_)
  obtain ⟨v2, rfl, h⟩ := h
  refine aw_eq (L' := [(0, .ref sb), (1, .ref (ad 0)), (2, .ref (ad 187)), (3, .ref (ad 217)), (4, .int x4)]) (st' := [.int v2]) (m' := m1) ?_ rfl rfl rfl
  refine aw_pop dL_law_442 rfl ?_
  refine aw_aload_n (j := 2) dL_law_443 rfl rfl ?_
  refine aw_aload_n (j := 0) dL_law_444 rfl rfl ?_
  refine aw_iload (j := 4) dL_law_445 rfl ?_
  refine aw_iconst (v := 1) dL_law_447 (by decide) ?_
  refine aw_iadd dL_law_448 ?_
  obtain ⟨hi, h⟩ := h
  refine aw_sld dL_law_449 hi ?_
  refine aw_aload_n (j := 0) dL_law_450 rfl rfl ?_
  refine aw_iload (j := 4) dL_law_451 rfl ?_
  refine aw_iconst (v := 2) dL_law_453 (by decide) ?_
  refine aw_iadd dL_law_454 ?_
  obtain ⟨hi, h⟩ := h
  refine aw_sld dL_law_455 hi ?_
  refine aw_callV (rest := []) [.int (xs (x4 + (1 : Int32)).toNatClampNeg), .int (xs (x4 + (2 : Int32)).toNatClampNeg)] dL_law_456 ly_187 rfl k_L_62 rfl h (Nat.le_of_ble_eq_true rfl) (fun v m3 h => ?_)
  obtain ⟨v4, rfl, h⟩ := h
  refine aw_eq (L' := [(0, .ref sb), (1, .ref (ad 0)), (2, .ref (ad 187)), (3, .ref (ad 217)), (4, .int x4)]) (st' := [.int v4]) (m' := m3) ?_ rfl rfl rfl
  refine aw_pop dL_law_459 rfl ?_
  refine aw_goto (tgt := 1550) dL_law_460 (by decide) ?_
  refine aw_iinc (j := 4) (v := x4 + (6 : Int32)) (L' := [(4, .int (x4 + (6 : Int32))), (0, .ref sb), (1, .ref (ad 0)), (2, .ref (ad 187)), (3, .ref (ad 217))]) dL_law_1550 rfl rfl (by decide) rfl ?_
  refine aw_goto (tgt := 23) dL_law_1553 (by decide) ?_
  exact aw_drop (Nat.le_succ _) (Nat.le_add_right _ _) (aw_sub [1, 2, 3, 4, 0] rfl h)
set_option maxRecDepth 100000 in
set_option maxHeartbeats 4000000 in
theorem g_L_law_463 {ad : Nat → Nat} {sb Ls kc ks : Nat} {xs : Nat → Int32} {d : Nat} {Q : Option Value → Wm → Prop} {m : Wm} {x4 : Int32} (h : (vp_in (x4 + (1 : Int32)) Ls ∧ (vp_in (x4 + (2 : Int32)) Ls ∧ (vp_in (x4 + (3 : Int32)) Ls ∧ (vp_in (x4 + (4 : Int32)) Ls ∧ (vp_in (x4 + (5 : Int32)) Ls ∧ (Ct ad μX11_sheet d [.ref (ad 0), .int (xs (x4 + (1 : Int32)).toNatClampNeg), .int (xs (x4 + (2 : Int32)).toNatClampNeg), .int (xs (x4 + (3 : Int32)).toNatClampNeg), .int (xs (x4 + (4 : Int32)).toNatClampNeg), .int (xs (x4 + (5 : Int32)).toNatClampNeg)] m (fun r m1 => ∃ v2 : Int32, r = some (.int v2) ∧ (vp_in (x4 + (1 : Int32)) Ls ∧ (vp_in (x4 + (2 : Int32)) Ls ∧ (vp_in (x4 + (3 : Int32)) Ls ∧ (vp_in (x4 + (4 : Int32)) Ls ∧ (vp_in (x4 + (5 : Int32)) Ls ∧ (Ct ad μX12_sheet d [.ref (ad 187), .int (xs (x4 + (1 : Int32)).toNatClampNeg), .int (xs (x4 + (2 : Int32)).toNatClampNeg), .int (xs (x4 + (3 : Int32)).toNatClampNeg), .int (xs (x4 + (4 : Int32)).toNatClampNeg), .int (xs (x4 + (5 : Int32)).toNatClampNeg)] m1 (fun r m3 => ∃ v4 : Int32, r = some (.int v4) ∧ AWl LAY ad (EX (SX sb Ls xs) kc ks LAY) μL_law (d + 1) Q 23 [(0, .ref sb), (1, .ref (ad 0)), (2, .ref (ad 187)), (3, .ref (ad 217)), (4, .int (x4 + (6 : Int32)))] [] m3))))))))))))))) : AWl LAY ad (EX (SX sb Ls xs) (kc + 1) (ks + 6) LAY) μL_law (d + 1) Q 463 [(0, .ref sb), (1, .ref (ad 0)), (2, .ref (ad 187)), (3, .ref (ad 217)), (4, .int x4)] [] m := by
  refine aw_aload_n (j := 1) dL_law_463 rfl rfl ?_
  refine aw_aload_n (j := 0) dL_law_464 rfl rfl ?_
  refine aw_iload (j := 4) dL_law_465 rfl ?_
  refine aw_iconst (v := 1) dL_law_467 (by decide) ?_
  refine aw_iadd dL_law_468 ?_
  obtain ⟨hi, h⟩ := h
  refine aw_sld dL_law_469 hi ?_
  refine aw_aload_n (j := 0) dL_law_470 rfl rfl ?_
  refine aw_iload (j := 4) dL_law_471 rfl ?_
  refine aw_iconst (v := 2) dL_law_473 (by decide) ?_
  refine aw_iadd dL_law_474 ?_
  obtain ⟨hi, h⟩ := h
  refine aw_sld dL_law_475 hi ?_
  refine aw_aload_n (j := 0) dL_law_476 rfl rfl ?_
  refine aw_iload (j := 4) dL_law_477 rfl ?_
  refine aw_iconst (v := 3) dL_law_479 (by decide) ?_
  refine aw_iadd dL_law_480 ?_
  obtain ⟨hi, h⟩ := h
  refine aw_sld dL_law_481 hi ?_
  refine aw_aload_n (j := 0) dL_law_482 rfl rfl ?_
  refine aw_iload (j := 4) dL_law_483 rfl ?_
  refine aw_iconst (v := 4) dL_law_485 (by decide) ?_
  refine aw_iadd dL_law_486 ?_
  obtain ⟨hi, h⟩ := h
  refine aw_sld dL_law_487 hi ?_
  refine aw_aload_n (j := 0) dL_law_488 rfl rfl ?_
  refine aw_iload (j := 4) dL_law_489 rfl ?_
  refine aw_iconst (v := 5) dL_law_491 (by decide) ?_
  refine aw_iadd dL_law_492 ?_
  obtain ⟨hi, h⟩ := h
  refine aw_sld dL_law_493 hi ?_
  refine aw_callV (rest := []) [.int (xs (x4 + (1 : Int32)).toNatClampNeg), .int (xs (x4 + (2 : Int32)).toNatClampNeg), .int (xs (x4 + (3 : Int32)).toNatClampNeg), .int (xs (x4 + (4 : Int32)).toNatClampNeg), .int (xs (x4 + (5 : Int32)).toNatClampNeg)] dL_law_494 ly_0 rfl k_L_63 rfl h (Nat.le_of_ble_eq_true rfl) (fun v m1 h => ?_)
  obtain ⟨v2, rfl, h⟩ := h
  refine aw_eq (L' := [(0, .ref sb), (1, .ref (ad 0)), (2, .ref (ad 187)), (3, .ref (ad 217)), (4, .int x4)]) (st' := [.int v2]) (m' := m1) ?_ rfl rfl rfl
  refine aw_pop dL_law_497 rfl ?_
  refine aw_aload_n (j := 2) dL_law_498 rfl rfl ?_
  refine aw_aload_n (j := 0) dL_law_499 rfl rfl ?_
  refine aw_iload (j := 4) dL_law_500 rfl ?_
  refine aw_iconst (v := 1) dL_law_502 (by decide) ?_
  refine aw_iadd dL_law_503 ?_
  obtain ⟨hi, h⟩ := h
  refine aw_sld dL_law_504 hi ?_
  refine aw_aload_n (j := 0) dL_law_505 rfl rfl ?_
  refine aw_iload (j := 4) dL_law_506 rfl ?_
  refine aw_iconst (v := 2) dL_law_508 (by decide) ?_
  refine aw_iadd dL_law_509 ?_
  obtain ⟨hi, h⟩ := h
  refine aw_sld dL_law_510 hi ?_
  refine aw_aload_n (j := 0) dL_law_511 rfl rfl ?_
  refine aw_iload (j := 4) dL_law_512 rfl ?_
  refine aw_iconst (v := 3) dL_law_514 (by decide) ?_
  refine aw_iadd dL_law_515 ?_
  obtain ⟨hi, h⟩ := h
  refine aw_sld dL_law_516 hi ?_
  refine aw_aload_n (j := 0) dL_law_517 rfl rfl ?_
  refine aw_iload (j := 4) dL_law_518 rfl ?_
  refine aw_iconst (v := 4) dL_law_520 (by decide) ?_
  refine aw_iadd dL_law_521 ?_
  obtain ⟨hi, h⟩ := h
  refine aw_sld dL_law_522 hi ?_
  refine aw_aload_n (j := 0) dL_law_523 rfl rfl ?_
  refine aw_iload (j := 4) dL_law_524 rfl ?_
  refine aw_iconst (v := 5) dL_law_526 (by decide) ?_
  refine aw_iadd dL_law_527 ?_
  obtain ⟨hi, h⟩ := h
  refine aw_sld dL_law_528 hi ?_
  refine aw_callV (rest := []) [.int (xs (x4 + (1 : Int32)).toNatClampNeg), .int (xs (x4 + (2 : Int32)).toNatClampNeg), .int (xs (x4 + (3 : Int32)).toNatClampNeg), .int (xs (x4 + (4 : Int32)).toNatClampNeg), .int (xs (x4 + (5 : Int32)).toNatClampNeg)] dL_law_529 ly_187 rfl k_L_67 rfl h (Nat.le_of_ble_eq_true rfl) (fun v m3 h => ?_)
  obtain ⟨v4, rfl, h⟩ := h
  refine aw_eq (L' := [(0, .ref sb), (1, .ref (ad 0)), (2, .ref (ad 187)), (3, .ref (ad 217)), (4, .int x4)]) (st' := [.int v4]) (m' := m3) ?_ rfl rfl rfl
  refine aw_pop dL_law_532 rfl ?_
  refine aw_goto (tgt := 1550) dL_law_533 (by decide) ?_
  refine aw_iinc (j := 4) (v := x4 + (6 : Int32)) (L' := [(4, .int (x4 + (6 : Int32))), (0, .ref sb), (1, .ref (ad 0)), (2, .ref (ad 187)), (3, .ref (ad 217))]) dL_law_1550 rfl rfl (by decide) rfl ?_
  refine aw_goto (tgt := 23) dL_law_1553 (by decide) ?_
  exact aw_drop (Nat.le_succ _) (Nat.le_add_right _ _) (aw_sub [1, 2, 3, 4, 0] rfl h)
set_option maxRecDepth 100000 in
set_option maxHeartbeats 4000000 in
theorem g_L_law_536 {ad : Nat → Nat} {sb Ls kc ks : Nat} {xs : Nat → Int32} {d : Nat} {Q : Option Value → Wm → Prop} {m : Wm} {x4 : Int32} (h : (vp_in (x4 + (1 : Int32)) Ls ∧ (vp_in (x4 + (2 : Int32)) Ls ∧ (((xs (x4 + (2 : Int32)).toNatClampNeg) = 0 → (Ct ad μX11_ill d [.ref (ad 0), .int (xs (x4 + (1 : Int32)).toNatClampNeg), .int (0 : Int32)] m (fun r m1 => ∃ v2 : Int32, r = some (.int v2) ∧ (vp_in (x4 + (1 : Int32)) Ls ∧ (vp_in (x4 + (2 : Int32)) Ls ∧ (((xs (x4 + (2 : Int32)).toNatClampNeg) = 0 → (Ct ad μX12_ill d [.ref (ad 187), .int (xs (x4 + (1 : Int32)).toNatClampNeg), .int (0 : Int32)] m1 (fun r m3 => ∃ v4 : Int32, r = some (.int v4) ∧ AWl LAY ad (EX (SX sb Ls xs) kc ks LAY) μL_law (d + 1) Q 23 [(0, .ref sb), (1, .ref (ad 0)), (2, .ref (ad 187)), (3, .ref (ad 217)), (4, .int (x4 + (6 : Int32)))] [] m3))) ∧ (¬ (xs (x4 + (2 : Int32)).toNatClampNeg) = 0 → (Ct ad μX12_ill d [.ref (ad 187), .int (xs (x4 + (1 : Int32)).toNatClampNeg), .int (1 : Int32)] m1 (fun r m5 => ∃ v6 : Int32, r = some (.int v6) ∧ AWl LAY ad (EX (SX sb Ls xs) kc ks LAY) μL_law (d + 1) Q 23 [(0, .ref sb), (1, .ref (ad 0)), (2, .ref (ad 187)), (3, .ref (ad 217)), (4, .int (x4 + (6 : Int32)))] [] m5))))))))) ∧ (¬ (xs (x4 + (2 : Int32)).toNatClampNeg) = 0 → (Ct ad μX11_ill d [.ref (ad 0), .int (xs (x4 + (1 : Int32)).toNatClampNeg), .int (1 : Int32)] m (fun r m7 => ∃ v8 : Int32, r = some (.int v8) ∧ (vp_in (x4 + (1 : Int32)) Ls ∧ (vp_in (x4 + (2 : Int32)) Ls ∧ (((xs (x4 + (2 : Int32)).toNatClampNeg) = 0 → (Ct ad μX12_ill d [.ref (ad 187), .int (xs (x4 + (1 : Int32)).toNatClampNeg), .int (0 : Int32)] m7 (fun r m9 => ∃ v10 : Int32, r = some (.int v10) ∧ AWl LAY ad (EX (SX sb Ls xs) kc ks LAY) μL_law (d + 1) Q 23 [(0, .ref sb), (1, .ref (ad 0)), (2, .ref (ad 187)), (3, .ref (ad 217)), (4, .int (x4 + (6 : Int32)))] [] m9))) ∧ (¬ (xs (x4 + (2 : Int32)).toNatClampNeg) = 0 → (Ct ad μX12_ill d [.ref (ad 187), .int (xs (x4 + (1 : Int32)).toNatClampNeg), .int (1 : Int32)] m7 (fun r m11 => ∃ v12 : Int32, r = some (.int v12) ∧ AWl LAY ad (EX (SX sb Ls xs) kc ks LAY) μL_law (d + 1) Q 23 [(0, .ref sb), (1, .ref (ad 0)), (2, .ref (ad 187)), (3, .ref (ad 217)), (4, .int (x4 + (6 : Int32)))] [] m11))))))))))))) : AWl LAY ad (EX (SX sb Ls xs) (kc + 1) (ks + 6) LAY) μL_law (d + 1) Q 536 [(0, .ref sb), (1, .ref (ad 0)), (2, .ref (ad 187)), (3, .ref (ad 217)), (4, .int x4)] [] m := by
  refine aw_aload_n (j := 1) dL_law_536 rfl rfl ?_
  refine aw_aload_n (j := 0) dL_law_537 rfl rfl ?_
  refine aw_iload (j := 4) dL_law_538 rfl ?_
  refine aw_iconst (v := 1) dL_law_540 (by decide) ?_
  refine aw_iadd dL_law_541 ?_
  obtain ⟨hi, h⟩ := h
  refine aw_sld dL_law_542 hi ?_
  refine aw_aload_n (j := 0) dL_law_543 rfl rfl ?_
  refine aw_iload (j := 4) dL_law_544 rfl ?_
  refine aw_iconst (v := 2) dL_law_546 (by decide) ?_
  refine aw_iadd dL_law_547 ?_
  obtain ⟨hi, h⟩ := h
  refine aw_sld dL_law_548 hi ?_
  refine aw_if_eq (tgt := 556) dL_law_549 (by decide) (fun hc => ?_) (fun hc => ?_)
  · have h := h.1 hc
    refine aw_iconst (v := 0) dL_law_556 (by decide) ?_
    refine aw_callV (rest := []) [.int (xs (x4 + (1 : Int32)).toNatClampNeg), .int (0 : Int32)] dL_law_557 ly_0 rfl k_L_68 rfl h (Nat.le_of_ble_eq_true rfl) (fun v m1 h => ?_)
    obtain ⟨v2, rfl, h⟩ := h
    refine aw_eq (L' := [(0, .ref sb), (1, .ref (ad 0)), (2, .ref (ad 187)), (3, .ref (ad 217)), (4, .int x4)]) (st' := [.int v2]) (m' := m1) ?_ rfl rfl rfl
    refine aw_pop dL_law_560 rfl ?_
    refine aw_aload_n (j := 2) dL_law_561 rfl rfl ?_
    refine aw_aload_n (j := 0) dL_law_562 rfl rfl ?_
    refine aw_iload (j := 4) dL_law_563 rfl ?_
    refine aw_iconst (v := 1) dL_law_565 (by decide) ?_
    refine aw_iadd dL_law_566 ?_
    obtain ⟨hi, h⟩ := h
    refine aw_sld dL_law_567 hi ?_
    refine aw_aload_n (j := 0) dL_law_568 rfl rfl ?_
    refine aw_iload (j := 4) dL_law_569 rfl ?_
    refine aw_iconst (v := 2) dL_law_571 (by decide) ?_
    refine aw_iadd dL_law_572 ?_
    obtain ⟨hi, h⟩ := h
    refine aw_sld dL_law_573 hi ?_
    refine aw_if_eq (tgt := 581) dL_law_574 (by decide) (fun hc => ?_) (fun hc => ?_)
    · have h := h.1 hc
      refine aw_iconst (v := 0) dL_law_581 (by decide) ?_
      refine aw_callV (rest := []) [.int (xs (x4 + (1 : Int32)).toNatClampNeg), .int (0 : Int32)] dL_law_582 ly_187 rfl k_L_72 rfl h (Nat.le_of_ble_eq_true rfl) (fun v m3 h => ?_)
      obtain ⟨v4, rfl, h⟩ := h
      refine aw_eq (L' := [(0, .ref sb), (1, .ref (ad 0)), (2, .ref (ad 187)), (3, .ref (ad 217)), (4, .int x4)]) (st' := [.int v4]) (m' := m3) ?_ rfl rfl rfl
      refine aw_pop dL_law_585 rfl ?_
      refine aw_goto (tgt := 1550) dL_law_586 (by decide) ?_
      refine aw_iinc (j := 4) (v := x4 + (6 : Int32)) (L' := [(4, .int (x4 + (6 : Int32))), (0, .ref sb), (1, .ref (ad 0)), (2, .ref (ad 187)), (3, .ref (ad 217))]) dL_law_1550 rfl rfl (by decide) rfl ?_
      refine aw_goto (tgt := 23) dL_law_1553 (by decide) ?_
      exact aw_drop (Nat.le_succ _) (Nat.le_add_right _ _) (aw_sub [1, 2, 3, 4, 0] rfl h)
    · have h := h.2 hc
      refine aw_iconst (v := 1) dL_law_577 (by decide) ?_
      refine aw_goto (tgt := 582) dL_law_578 (by decide) ?_
      refine aw_callV (rest := []) [.int (xs (x4 + (1 : Int32)).toNatClampNeg), .int (1 : Int32)] dL_law_582 ly_187 rfl k_L_72 rfl h (Nat.le_of_ble_eq_true rfl) (fun v m5 h => ?_)
      obtain ⟨v6, rfl, h⟩ := h
      refine aw_eq (L' := [(0, .ref sb), (1, .ref (ad 0)), (2, .ref (ad 187)), (3, .ref (ad 217)), (4, .int x4)]) (st' := [.int v6]) (m' := m5) ?_ rfl rfl rfl
      refine aw_pop dL_law_585 rfl ?_
      refine aw_goto (tgt := 1550) dL_law_586 (by decide) ?_
      refine aw_iinc (j := 4) (v := x4 + (6 : Int32)) (L' := [(4, .int (x4 + (6 : Int32))), (0, .ref sb), (1, .ref (ad 0)), (2, .ref (ad 187)), (3, .ref (ad 217))]) dL_law_1550 rfl rfl (by decide) rfl ?_
      refine aw_goto (tgt := 23) dL_law_1553 (by decide) ?_
      exact aw_drop (Nat.le_succ _) (Nat.le_add_right _ _) (aw_sub [1, 2, 3, 4, 0] rfl h)
  · have h := h.2 hc
    refine aw_iconst (v := 1) dL_law_552 (by decide) ?_
    refine aw_goto (tgt := 557) dL_law_553 (by decide) ?_
    refine aw_callV (rest := []) [.int (xs (x4 + (1 : Int32)).toNatClampNeg), .int (1 : Int32)] dL_law_557 ly_0 rfl k_L_68 rfl h (Nat.le_of_ble_eq_true rfl) (fun v m7 h => ?_)
    obtain ⟨v8, rfl, h⟩ := h
    refine aw_eq (L' := [(0, .ref sb), (1, .ref (ad 0)), (2, .ref (ad 187)), (3, .ref (ad 217)), (4, .int x4)]) (st' := [.int v8]) (m' := m7) ?_ rfl rfl rfl
    refine aw_pop dL_law_560 rfl ?_
    refine aw_aload_n (j := 2) dL_law_561 rfl rfl ?_
    refine aw_aload_n (j := 0) dL_law_562 rfl rfl ?_
    refine aw_iload (j := 4) dL_law_563 rfl ?_
    refine aw_iconst (v := 1) dL_law_565 (by decide) ?_
    refine aw_iadd dL_law_566 ?_
    obtain ⟨hi, h⟩ := h
    refine aw_sld dL_law_567 hi ?_
    refine aw_aload_n (j := 0) dL_law_568 rfl rfl ?_
    refine aw_iload (j := 4) dL_law_569 rfl ?_
    refine aw_iconst (v := 2) dL_law_571 (by decide) ?_
    refine aw_iadd dL_law_572 ?_
    obtain ⟨hi, h⟩ := h
    refine aw_sld dL_law_573 hi ?_
    refine aw_if_eq (tgt := 581) dL_law_574 (by decide) (fun hc => ?_) (fun hc => ?_)
    · have h := h.1 hc
      refine aw_iconst (v := 0) dL_law_581 (by decide) ?_
      refine aw_callV (rest := []) [.int (xs (x4 + (1 : Int32)).toNatClampNeg), .int (0 : Int32)] dL_law_582 ly_187 rfl k_L_72 rfl h (Nat.le_of_ble_eq_true rfl) (fun v m9 h => ?_)
      obtain ⟨v10, rfl, h⟩ := h
      refine aw_eq (L' := [(0, .ref sb), (1, .ref (ad 0)), (2, .ref (ad 187)), (3, .ref (ad 217)), (4, .int x4)]) (st' := [.int v10]) (m' := m9) ?_ rfl rfl rfl
      refine aw_pop dL_law_585 rfl ?_
      refine aw_goto (tgt := 1550) dL_law_586 (by decide) ?_
      refine aw_iinc (j := 4) (v := x4 + (6 : Int32)) (L' := [(4, .int (x4 + (6 : Int32))), (0, .ref sb), (1, .ref (ad 0)), (2, .ref (ad 187)), (3, .ref (ad 217))]) dL_law_1550 rfl rfl (by decide) rfl ?_
      refine aw_goto (tgt := 23) dL_law_1553 (by decide) ?_
      exact aw_drop (Nat.le_succ _) (Nat.le_add_right _ _) (aw_sub [1, 2, 3, 4, 0] rfl h)
    · have h := h.2 hc
      refine aw_iconst (v := 1) dL_law_577 (by decide) ?_
      refine aw_goto (tgt := 582) dL_law_578 (by decide) ?_
      refine aw_callV (rest := []) [.int (xs (x4 + (1 : Int32)).toNatClampNeg), .int (1 : Int32)] dL_law_582 ly_187 rfl k_L_72 rfl h (Nat.le_of_ble_eq_true rfl) (fun v m11 h => ?_)
      obtain ⟨v12, rfl, h⟩ := h
      refine aw_eq (L' := [(0, .ref sb), (1, .ref (ad 0)), (2, .ref (ad 187)), (3, .ref (ad 217)), (4, .int x4)]) (st' := [.int v12]) (m' := m11) ?_ rfl rfl rfl
      refine aw_pop dL_law_585 rfl ?_
      refine aw_goto (tgt := 1550) dL_law_586 (by decide) ?_
      refine aw_iinc (j := 4) (v := x4 + (6 : Int32)) (L' := [(4, .int (x4 + (6 : Int32))), (0, .ref sb), (1, .ref (ad 0)), (2, .ref (ad 187)), (3, .ref (ad 217))]) dL_law_1550 rfl rfl (by decide) rfl ?_
      refine aw_goto (tgt := 23) dL_law_1553 (by decide) ?_
      exact aw_drop (Nat.le_succ _) (Nat.le_add_right _ _) (aw_sub [1, 2, 3, 4, 0] rfl h)
set_option maxRecDepth 100000 in
set_option maxHeartbeats 4000000 in
theorem g_L_law_589 {ad : Nat → Nat} {sb Ls kc ks : Nat} {xs : Nat → Int32} {d : Nat} {Q : Option Value → Wm → Prop} {m : Wm} {x4 : Int32} (h : (vp_in (x4 + (1 : Int32)) Ls ∧ (vp_in (x4 + (2 : Int32)) Ls ∧ (Ct ad μX11_swap d [.ref (ad 0), .int (xs (x4 + (1 : Int32)).toNatClampNeg), .int (xs (x4 + (2 : Int32)).toNatClampNeg)] m (fun r m1 => ∃ v2 : Int32, r = some (.int v2) ∧ (vp_in (x4 + (1 : Int32)) Ls ∧ (vp_in (x4 + (2 : Int32)) Ls ∧ (Ct ad μX12_swap d [.ref (ad 187), .int (xs (x4 + (1 : Int32)).toNatClampNeg), .int (xs (x4 + (2 : Int32)).toNatClampNeg)] m1 (fun r m3 => ∃ v4 : Int32, r = some (.int v4) ∧ AWl LAY ad (EX (SX sb Ls xs) kc ks LAY) μL_law (d + 1) Q 23 [(0, .ref sb), (1, .ref (ad 0)), (2, .ref (ad 187)), (3, .ref (ad 217)), (4, .int (x4 + (6 : Int32)))] [] m3))))))))) : AWl LAY ad (EX (SX sb Ls xs) (kc + 1) (ks + 6) LAY) μL_law (d + 1) Q 589 [(0, .ref sb), (1, .ref (ad 0)), (2, .ref (ad 187)), (3, .ref (ad 217)), (4, .int x4)] [] m := by
  refine aw_aload_n (j := 1) dL_law_589 rfl rfl ?_
  refine aw_aload_n (j := 0) dL_law_590 rfl rfl ?_
  refine aw_iload (j := 4) dL_law_591 rfl ?_
  refine aw_iconst (v := 1) dL_law_593 (by decide) ?_
  refine aw_iadd dL_law_594 ?_
  obtain ⟨hi, h⟩ := h
  refine aw_sld dL_law_595 hi ?_
  refine aw_aload_n (j := 0) dL_law_596 rfl rfl ?_
  refine aw_iload (j := 4) dL_law_597 rfl ?_
  refine aw_iconst (v := 2) dL_law_599 (by decide) ?_
  refine aw_iadd dL_law_600 ?_
  obtain ⟨hi, h⟩ := h
  refine aw_sld dL_law_601 hi ?_
  refine aw_callV (rest := []) [.int (xs (x4 + (1 : Int32)).toNatClampNeg), .int (xs (x4 + (2 : Int32)).toNatClampNeg)] dL_law_602 ly_0 rfl k_L_73 rfl h (Nat.le_of_ble_eq_true rfl) (fun v m1 h => ?_)
  obtain ⟨v2, rfl, h⟩ := h
  refine aw_eq (L' := [(0, .ref sb), (1, .ref (ad 0)), (2, .ref (ad 187)), (3, .ref (ad 217)), (4, .int x4)]) (st' := [.int v2]) (m' := m1) ?_ rfl rfl rfl
  refine aw_pop dL_law_605 rfl ?_
  refine aw_aload_n (j := 2) dL_law_606 rfl rfl ?_
  refine aw_aload_n (j := 0) dL_law_607 rfl rfl ?_
  refine aw_iload (j := 4) dL_law_608 rfl ?_
  refine aw_iconst (v := 1) dL_law_610 (by decide) ?_
  refine aw_iadd dL_law_611 ?_
  obtain ⟨hi, h⟩ := h
  refine aw_sld dL_law_612 hi ?_
  refine aw_aload_n (j := 0) dL_law_613 rfl rfl ?_
  refine aw_iload (j := 4) dL_law_614 rfl ?_
  refine aw_iconst (v := 2) dL_law_616 (by decide) ?_
  refine aw_iadd dL_law_617 ?_
  obtain ⟨hi, h⟩ := h
  refine aw_sld dL_law_618 hi ?_
  refine aw_callV (rest := []) [.int (xs (x4 + (1 : Int32)).toNatClampNeg), .int (xs (x4 + (2 : Int32)).toNatClampNeg)] dL_law_619 ly_187 rfl k_L_77 rfl h (Nat.le_of_ble_eq_true rfl) (fun v m3 h => ?_)
  obtain ⟨v4, rfl, h⟩ := h
  refine aw_eq (L' := [(0, .ref sb), (1, .ref (ad 0)), (2, .ref (ad 187)), (3, .ref (ad 217)), (4, .int x4)]) (st' := [.int v4]) (m' := m3) ?_ rfl rfl rfl
  refine aw_pop dL_law_622 rfl ?_
  refine aw_goto (tgt := 1550) dL_law_623 (by decide) ?_
  refine aw_iinc (j := 4) (v := x4 + (6 : Int32)) (L' := [(4, .int (x4 + (6 : Int32))), (0, .ref sb), (1, .ref (ad 0)), (2, .ref (ad 187)), (3, .ref (ad 217))]) dL_law_1550 rfl rfl (by decide) rfl ?_
  refine aw_goto (tgt := 23) dL_law_1553 (by decide) ?_
  exact aw_drop (Nat.le_succ _) (Nat.le_add_right _ _) (aw_sub [1, 2, 3, 4, 0] rfl h)
set_option maxRecDepth 100000 in
set_option maxHeartbeats 4000000 in
theorem g_L_law_626 {ad : Nat → Nat} {sb Ls kc ks : Nat} {xs : Nat → Int32} {d : Nat} {Q : Option Value → Wm → Prop} {m : Wm} {x4 : Int32} (h : (Ct ad μX11_circle d [.ref (ad 0)] m (fun r m1 => ∃ v2 : Int32, r = some (.int v2) ∧ (Ct ad μX12_circle d [.ref (ad 187)] m1 (fun r m3 => ∃ v4 : Int32, r = some (.int v4) ∧ AWl LAY ad (EX (SX sb Ls xs) kc ks LAY) μL_law (d + 1) Q 23 [(0, .ref sb), (1, .ref (ad 0)), (2, .ref (ad 187)), (3, .ref (ad 217)), (4, .int (x4 + (6 : Int32)))] [] m3))))) : AWl LAY ad (EX (SX sb Ls xs) (kc + 1) (ks + 6) LAY) μL_law (d + 1) Q 626 [(0, .ref sb), (1, .ref (ad 0)), (2, .ref (ad 187)), (3, .ref (ad 217)), (4, .int x4)] [] m := by
  refine aw_aload_n (j := 1) dL_law_626 rfl rfl ?_
  refine aw_callV (rest := []) [] dL_law_627 ly_0 rfl k_L_78 rfl h (Nat.le_of_ble_eq_true rfl) (fun v m1 h => ?_)
  obtain ⟨v2, rfl, h⟩ := h
  refine aw_eq (L' := [(0, .ref sb), (1, .ref (ad 0)), (2, .ref (ad 187)), (3, .ref (ad 217)), (4, .int x4)]) (st' := [.int v2]) (m' := m1) ?_ rfl rfl rfl
  refine aw_pop dL_law_630 rfl ?_
  refine aw_aload_n (j := 2) dL_law_631 rfl rfl ?_
  refine aw_callV (rest := []) [] dL_law_632 ly_187 rfl k_L_81 rfl h (Nat.le_of_ble_eq_true rfl) (fun v m3 h => ?_)
  obtain ⟨v4, rfl, h⟩ := h
  refine aw_eq (L' := [(0, .ref sb), (1, .ref (ad 0)), (2, .ref (ad 187)), (3, .ref (ad 217)), (4, .int x4)]) (st' := [.int v4]) (m' := m3) ?_ rfl rfl rfl
  refine aw_pop dL_law_635 rfl ?_
  refine aw_goto (tgt := 1550) dL_law_636 (by decide) ?_
  refine aw_iinc (j := 4) (v := x4 + (6 : Int32)) (L' := [(4, .int (x4 + (6 : Int32))), (0, .ref sb), (1, .ref (ad 0)), (2, .ref (ad 187)), (3, .ref (ad 217))]) dL_law_1550 rfl rfl (by decide) rfl ?_
  refine aw_goto (tgt := 23) dL_law_1553 (by decide) ?_
  exact aw_drop (Nat.le_succ _) (Nat.le_add_right _ _) (aw_sub [1, 2, 3, 4, 0] rfl h)
set_option maxRecDepth 100000 in
set_option maxHeartbeats 4000000 in
theorem g_L_law_639 {ad : Nat → Nat} {sb Ls kc ks : Nat} {xs : Nat → Int32} {d : Nat} {Q : Option Value → Wm → Prop} {m : Wm} {x4 : Int32} (h : (vp_in (x4 + (1 : Int32)) Ls ∧ (vp_in (x4 + (2 : Int32)) Ls ∧ (vp_in (x4 + (3 : Int32)) Ls ∧ (Ct ad μX11_game d [.ref (ad 0), .int (xs (x4 + (1 : Int32)).toNatClampNeg), .int (xs (x4 + (2 : Int32)).toNatClampNeg), .int (xs (x4 + (3 : Int32)).toNatClampNeg)] m (fun r m1 => ∃ v2 : Int32, r = some (.int v2) ∧ (vp_in (x4 + (1 : Int32)) Ls ∧ (vp_in (x4 + (2 : Int32)) Ls ∧ (vp_in (x4 + (3 : Int32)) Ls ∧ (Ct ad μX12_game d [.ref (ad 187), .int (xs (x4 + (1 : Int32)).toNatClampNeg), .int (xs (x4 + (2 : Int32)).toNatClampNeg), .int (xs (x4 + (3 : Int32)).toNatClampNeg)] m1 (fun r m3 => ∃ v4 : Int32, r = some (.int v4) ∧ AWl LAY ad (EX (SX sb Ls xs) kc ks LAY) μL_law (d + 1) Q 23 [(0, .ref sb), (1, .ref (ad 0)), (2, .ref (ad 187)), (3, .ref (ad 217)), (4, .int (x4 + (6 : Int32)))] [] m3))))))))))) : AWl LAY ad (EX (SX sb Ls xs) (kc + 1) (ks + 6) LAY) μL_law (d + 1) Q 639 [(0, .ref sb), (1, .ref (ad 0)), (2, .ref (ad 187)), (3, .ref (ad 217)), (4, .int x4)] [] m := by
  refine aw_aload_n (j := 1) dL_law_639 rfl rfl ?_
  refine aw_aload_n (j := 0) dL_law_640 rfl rfl ?_
  refine aw_iload (j := 4) dL_law_641 rfl ?_
  refine aw_iconst (v := 1) dL_law_643 (by decide) ?_
  refine aw_iadd dL_law_644 ?_
  obtain ⟨hi, h⟩ := h
  refine aw_sld dL_law_645 hi ?_
  refine aw_aload_n (j := 0) dL_law_646 rfl rfl ?_
  refine aw_iload (j := 4) dL_law_647 rfl ?_
  refine aw_iconst (v := 2) dL_law_649 (by decide) ?_
  refine aw_iadd dL_law_650 ?_
  obtain ⟨hi, h⟩ := h
  refine aw_sld dL_law_651 hi ?_
  refine aw_aload_n (j := 0) dL_law_652 rfl rfl ?_
  refine aw_iload (j := 4) dL_law_653 rfl ?_
  refine aw_iconst (v := 3) dL_law_655 (by decide) ?_
  refine aw_iadd dL_law_656 ?_
  obtain ⟨hi, h⟩ := h
  refine aw_sld dL_law_657 hi ?_
  refine aw_callV (rest := []) [.int (xs (x4 + (1 : Int32)).toNatClampNeg), .int (xs (x4 + (2 : Int32)).toNatClampNeg), .int (xs (x4 + (3 : Int32)).toNatClampNeg)] dL_law_658 ly_0 rfl k_L_82 rfl h (Nat.le_of_ble_eq_true rfl) (fun v m1 h => ?_)
  obtain ⟨v2, rfl, h⟩ := h
  refine aw_eq (L' := [(0, .ref sb), (1, .ref (ad 0)), (2, .ref (ad 187)), (3, .ref (ad 217)), (4, .int x4)]) (st' := [.int v2]) (m' := m1) ?_ rfl rfl rfl
  refine aw_pop dL_law_661 rfl ?_
  refine aw_aload_n (j := 2) dL_law_662 rfl rfl ?_
  refine aw_aload_n (j := 0) dL_law_663 rfl rfl ?_
  refine aw_iload (j := 4) dL_law_664 rfl ?_
  refine aw_iconst (v := 1) dL_law_666 (by decide) ?_
  refine aw_iadd dL_law_667 ?_
  obtain ⟨hi, h⟩ := h
  refine aw_sld dL_law_668 hi ?_
  refine aw_aload_n (j := 0) dL_law_669 rfl rfl ?_
  refine aw_iload (j := 4) dL_law_670 rfl ?_
  refine aw_iconst (v := 2) dL_law_672 (by decide) ?_
  refine aw_iadd dL_law_673 ?_
  obtain ⟨hi, h⟩ := h
  refine aw_sld dL_law_674 hi ?_
  refine aw_aload_n (j := 0) dL_law_675 rfl rfl ?_
  refine aw_iload (j := 4) dL_law_676 rfl ?_
  refine aw_iconst (v := 3) dL_law_678 (by decide) ?_
  refine aw_iadd dL_law_679 ?_
  obtain ⟨hi, h⟩ := h
  refine aw_sld dL_law_680 hi ?_
  refine aw_callV (rest := []) [.int (xs (x4 + (1 : Int32)).toNatClampNeg), .int (xs (x4 + (2 : Int32)).toNatClampNeg), .int (xs (x4 + (3 : Int32)).toNatClampNeg)] dL_law_681 ly_187 rfl k_L_86 rfl h (Nat.le_of_ble_eq_true rfl) (fun v m3 h => ?_)
  obtain ⟨v4, rfl, h⟩ := h
  refine aw_eq (L' := [(0, .ref sb), (1, .ref (ad 0)), (2, .ref (ad 187)), (3, .ref (ad 217)), (4, .int x4)]) (st' := [.int v4]) (m' := m3) ?_ rfl rfl rfl
  refine aw_pop dL_law_684 rfl ?_
  refine aw_goto (tgt := 1550) dL_law_685 (by decide) ?_
  refine aw_iinc (j := 4) (v := x4 + (6 : Int32)) (L' := [(4, .int (x4 + (6 : Int32))), (0, .ref sb), (1, .ref (ad 0)), (2, .ref (ad 187)), (3, .ref (ad 217))]) dL_law_1550 rfl rfl (by decide) rfl ?_
  refine aw_goto (tgt := 23) dL_law_1553 (by decide) ?_
  exact aw_drop (Nat.le_succ _) (Nat.le_add_right _ _) (aw_sub [1, 2, 3, 4, 0] rfl h)
set_option maxRecDepth 100000 in
set_option maxHeartbeats 4000000 in
theorem g_L_law_688 {ad : Nat → Nat} {sb Ls kc ks : Nat} {xs : Nat → Int32} {d : Nat} {Q : Option Value → Wm → Prop} {m : Wm} {x4 : Int32} (h : (vp_in (x4 + (1 : Int32)) Ls ∧ (vp_in (x4 + (2 : Int32)) Ls ∧ (Ct ad μX11_odds d [.ref (ad 0), .int (xs (x4 + (1 : Int32)).toNatClampNeg), .int (xs (x4 + (2 : Int32)).toNatClampNeg)] m (fun r m1 => ∃ v2 : Int32, r = some (.int v2) ∧ (vp_in (x4 + (1 : Int32)) Ls ∧ (vp_in (x4 + (2 : Int32)) Ls ∧ (Ct ad μX12_odds d [.ref (ad 187), .int (xs (x4 + (1 : Int32)).toNatClampNeg), .int (xs (x4 + (2 : Int32)).toNatClampNeg)] m1 (fun r m3 => ∃ v4 : Int32, r = some (.int v4) ∧ AWl LAY ad (EX (SX sb Ls xs) kc ks LAY) μL_law (d + 1) Q 23 [(0, .ref sb), (1, .ref (ad 0)), (2, .ref (ad 187)), (3, .ref (ad 217)), (4, .int (x4 + (6 : Int32)))] [] m3))))))))) : AWl LAY ad (EX (SX sb Ls xs) (kc + 1) (ks + 6) LAY) μL_law (d + 1) Q 688 [(0, .ref sb), (1, .ref (ad 0)), (2, .ref (ad 187)), (3, .ref (ad 217)), (4, .int x4)] [] m := by
  refine aw_aload_n (j := 1) dL_law_688 rfl rfl ?_
  refine aw_aload_n (j := 0) dL_law_689 rfl rfl ?_
  refine aw_iload (j := 4) dL_law_690 rfl ?_
  refine aw_iconst (v := 1) dL_law_692 (by decide) ?_
  refine aw_iadd dL_law_693 ?_
  obtain ⟨hi, h⟩ := h
  refine aw_sld dL_law_694 hi ?_
  refine aw_aload_n (j := 0) dL_law_695 rfl rfl ?_
  refine aw_iload (j := 4) dL_law_696 rfl ?_
  refine aw_iconst (v := 2) dL_law_698 (by decide) ?_
  refine aw_iadd dL_law_699 ?_
  obtain ⟨hi, h⟩ := h
  refine aw_sld dL_law_700 hi ?_
  refine aw_callV (rest := []) [.int (xs (x4 + (1 : Int32)).toNatClampNeg), .int (xs (x4 + (2 : Int32)).toNatClampNeg)] dL_law_701 ly_0 rfl k_L_87 rfl h (Nat.le_of_ble_eq_true rfl) (fun v m1 h => ?_)
  obtain ⟨v2, rfl, h⟩ := h
  refine aw_eq (L' := [(0, .ref sb), (1, .ref (ad 0)), (2, .ref (ad 187)), (3, .ref (ad 217)), (4, .int x4)]) (st' := [.int v2]) (m' := m1) ?_ rfl rfl rfl
  refine aw_pop dL_law_704 rfl ?_
  refine aw_aload_n (j := 2) dL_law_705 rfl rfl ?_
  refine aw_aload_n (j := 0) dL_law_706 rfl rfl ?_
  refine aw_iload (j := 4) dL_law_707 rfl ?_
  refine aw_iconst (v := 1) dL_law_709 (by decide) ?_
  refine aw_iadd dL_law_710 ?_
  obtain ⟨hi, h⟩ := h
  refine aw_sld dL_law_711 hi ?_
  refine aw_aload_n (j := 0) dL_law_712 rfl rfl ?_
  refine aw_iload (j := 4) dL_law_713 rfl ?_
  refine aw_iconst (v := 2) dL_law_715 (by decide) ?_
  refine aw_iadd dL_law_716 ?_
  obtain ⟨hi, h⟩ := h
  refine aw_sld dL_law_717 hi ?_
  refine aw_callV (rest := []) [.int (xs (x4 + (1 : Int32)).toNatClampNeg), .int (xs (x4 + (2 : Int32)).toNatClampNeg)] dL_law_718 ly_187 rfl k_L_90 rfl h (Nat.le_of_ble_eq_true rfl) (fun v m3 h => ?_)
  obtain ⟨v4, rfl, h⟩ := h
  refine aw_eq (L' := [(0, .ref sb), (1, .ref (ad 0)), (2, .ref (ad 187)), (3, .ref (ad 217)), (4, .int x4)]) (st' := [.int v4]) (m' := m3) ?_ rfl rfl rfl
  refine aw_pop dL_law_721 rfl ?_
  refine aw_goto (tgt := 1550) dL_law_722 (by decide) ?_
  refine aw_iinc (j := 4) (v := x4 + (6 : Int32)) (L' := [(4, .int (x4 + (6 : Int32))), (0, .ref sb), (1, .ref (ad 0)), (2, .ref (ad 187)), (3, .ref (ad 217))]) dL_law_1550 rfl rfl (by decide) rfl ?_
  refine aw_goto (tgt := 23) dL_law_1553 (by decide) ?_
  exact aw_drop (Nat.le_succ _) (Nat.le_add_right _ _) (aw_sub [1, 2, 3, 4, 0] rfl h)
set_option maxRecDepth 100000 in
set_option maxHeartbeats 4000000 in
theorem g_L_law_725 {ad : Nat → Nat} {sb Ls kc ks : Nat} {xs : Nat → Int32} {d : Nat} {Q : Option Value → Wm → Prop} {m : Wm} {x4 : Int32} (h : (vp_in (x4 + (1 : Int32)) Ls ∧ (vp_in (x4 + (2 : Int32)) Ls ∧ (vp_in (x4 + (3 : Int32)) Ls ∧ (Ct ad μX11_play d [.ref (ad 0), .int (xs (x4 + (1 : Int32)).toNatClampNeg), .int (xs (x4 + (2 : Int32)).toNatClampNeg), .int (xs (x4 + (3 : Int32)).toNatClampNeg)] m (fun r m1 => ∃ v2 : Int32, r = some (.int v2) ∧ (vp_in (x4 + (1 : Int32)) Ls ∧ (vp_in (x4 + (2 : Int32)) Ls ∧ (vp_in (x4 + (3 : Int32)) Ls ∧ (Ct ad μX12_play d [.ref (ad 187), .int (xs (x4 + (1 : Int32)).toNatClampNeg), .int (xs (x4 + (2 : Int32)).toNatClampNeg), .int (xs (x4 + (3 : Int32)).toNatClampNeg)] m1 (fun r m3 => ∃ v4 : Int32, r = some (.int v4) ∧ AWl LAY ad (EX (SX sb Ls xs) kc ks LAY) μL_law (d + 1) Q 23 [(0, .ref sb), (1, .ref (ad 0)), (2, .ref (ad 187)), (3, .ref (ad 217)), (4, .int (x4 + (6 : Int32)))] [] m3))))))))))) : AWl LAY ad (EX (SX sb Ls xs) (kc + 1) (ks + 6) LAY) μL_law (d + 1) Q 725 [(0, .ref sb), (1, .ref (ad 0)), (2, .ref (ad 187)), (3, .ref (ad 217)), (4, .int x4)] [] m := by
  refine aw_aload_n (j := 1) dL_law_725 rfl rfl ?_
  refine aw_aload_n (j := 0) dL_law_726 rfl rfl ?_
  refine aw_iload (j := 4) dL_law_727 rfl ?_
  refine aw_iconst (v := 1) dL_law_729 (by decide) ?_
  refine aw_iadd dL_law_730 ?_
  obtain ⟨hi, h⟩ := h
  refine aw_sld dL_law_731 hi ?_
  refine aw_aload_n (j := 0) dL_law_732 rfl rfl ?_
  refine aw_iload (j := 4) dL_law_733 rfl ?_
  refine aw_iconst (v := 2) dL_law_735 (by decide) ?_
  refine aw_iadd dL_law_736 ?_
  obtain ⟨hi, h⟩ := h
  refine aw_sld dL_law_737 hi ?_
  refine aw_aload_n (j := 0) dL_law_738 rfl rfl ?_
  refine aw_iload (j := 4) dL_law_739 rfl ?_
  refine aw_iconst (v := 3) dL_law_741 (by decide) ?_
  refine aw_iadd dL_law_742 ?_
  obtain ⟨hi, h⟩ := h
  refine aw_sld dL_law_743 hi ?_
  refine aw_callV (rest := []) [.int (xs (x4 + (1 : Int32)).toNatClampNeg), .int (xs (x4 + (2 : Int32)).toNatClampNeg), .int (xs (x4 + (3 : Int32)).toNatClampNeg)] dL_law_744 ly_0 rfl k_L_91 rfl h (Nat.le_of_ble_eq_true rfl) (fun v m1 h => ?_)
  obtain ⟨v2, rfl, h⟩ := h
  refine aw_eq (L' := [(0, .ref sb), (1, .ref (ad 0)), (2, .ref (ad 187)), (3, .ref (ad 217)), (4, .int x4)]) (st' := [.int v2]) (m' := m1) ?_ rfl rfl rfl
  refine aw_pop dL_law_747 rfl ?_
  refine aw_aload_n (j := 2) dL_law_748 rfl rfl ?_
  refine aw_aload_n (j := 0) dL_law_749 rfl rfl ?_
  refine aw_iload (j := 4) dL_law_750 rfl ?_
  refine aw_iconst (v := 1) dL_law_752 (by decide) ?_
  refine aw_iadd dL_law_753 ?_
  obtain ⟨hi, h⟩ := h
  refine aw_sld dL_law_754 hi ?_
  refine aw_aload_n (j := 0) dL_law_755 rfl rfl ?_
  refine aw_iload (j := 4) dL_law_756 rfl ?_
  refine aw_iconst (v := 2) dL_law_758 (by decide) ?_
  refine aw_iadd dL_law_759 ?_
  obtain ⟨hi, h⟩ := h
  refine aw_sld dL_law_760 hi ?_
  refine aw_aload_n (j := 0) dL_law_761 rfl rfl ?_
  refine aw_iload (j := 4) dL_law_762 rfl ?_
  refine aw_iconst (v := 3) dL_law_764 (by decide) ?_
  refine aw_iadd dL_law_765 ?_
  obtain ⟨hi, h⟩ := h
  refine aw_sld dL_law_766 hi ?_
  refine aw_callV (rest := []) [.int (xs (x4 + (1 : Int32)).toNatClampNeg), .int (xs (x4 + (2 : Int32)).toNatClampNeg), .int (xs (x4 + (3 : Int32)).toNatClampNeg)] dL_law_767 ly_187 rfl k_L_94 rfl h (Nat.le_of_ble_eq_true rfl) (fun v m3 h => ?_)
  obtain ⟨v4, rfl, h⟩ := h
  refine aw_eq (L' := [(0, .ref sb), (1, .ref (ad 0)), (2, .ref (ad 187)), (3, .ref (ad 217)), (4, .int x4)]) (st' := [.int v4]) (m' := m3) ?_ rfl rfl rfl
  refine aw_pop dL_law_770 rfl ?_
  refine aw_goto (tgt := 1550) dL_law_771 (by decide) ?_
  refine aw_iinc (j := 4) (v := x4 + (6 : Int32)) (L' := [(4, .int (x4 + (6 : Int32))), (0, .ref sb), (1, .ref (ad 0)), (2, .ref (ad 187)), (3, .ref (ad 217))]) dL_law_1550 rfl rfl (by decide) rfl ?_
  refine aw_goto (tgt := 23) dL_law_1553 (by decide) ?_
  exact aw_drop (Nat.le_succ _) (Nat.le_add_right _ _) (aw_sub [1, 2, 3, 4, 0] rfl h)
set_option maxRecDepth 100000 in
set_option maxHeartbeats 4000000 in
theorem g_L_law_774 {ad : Nat → Nat} {sb Ls kc ks : Nat} {xs : Nat → Int32} {d : Nat} {Q : Option Value → Wm → Prop} {m : Wm} {x4 : Int32} (h : (Ct ad μX11_undo d [.ref (ad 0)] m (fun r m1 => ∃ v2 : Int32, r = some (.int v2) ∧ (Ct ad μX12_undo d [.ref (ad 187)] m1 (fun r m3 => ∃ v4 : Int32, r = some (.int v4) ∧ AWl LAY ad (EX (SX sb Ls xs) kc ks LAY) μL_law (d + 1) Q 23 [(0, .ref sb), (1, .ref (ad 0)), (2, .ref (ad 187)), (3, .ref (ad 217)), (4, .int (x4 + (6 : Int32)))] [] m3))))) : AWl LAY ad (EX (SX sb Ls xs) (kc + 1) (ks + 6) LAY) μL_law (d + 1) Q 774 [(0, .ref sb), (1, .ref (ad 0)), (2, .ref (ad 187)), (3, .ref (ad 217)), (4, .int x4)] [] m := by
  refine aw_aload_n (j := 1) dL_law_774 rfl rfl ?_
  refine aw_callV (rest := []) [] dL_law_775 ly_0 rfl k_L_95 rfl h (Nat.le_of_ble_eq_true rfl) (fun v m1 h => ?_)
  obtain ⟨v2, rfl, h⟩ := h
  refine aw_eq (L' := [(0, .ref sb), (1, .ref (ad 0)), (2, .ref (ad 187)), (3, .ref (ad 217)), (4, .int x4)]) (st' := [.int v2]) (m' := m1) ?_ rfl rfl rfl
  refine aw_pop dL_law_778 rfl ?_
  refine aw_aload_n (j := 2) dL_law_779 rfl rfl ?_
  refine aw_callV (rest := []) [] dL_law_780 ly_187 rfl k_L_98 rfl h (Nat.le_of_ble_eq_true rfl) (fun v m3 h => ?_)
  obtain ⟨v4, rfl, h⟩ := h
  refine aw_eq (L' := [(0, .ref sb), (1, .ref (ad 0)), (2, .ref (ad 187)), (3, .ref (ad 217)), (4, .int x4)]) (st' := [.int v4]) (m' := m3) ?_ rfl rfl rfl
  refine aw_pop dL_law_783 rfl ?_
  refine aw_goto (tgt := 1550) dL_law_784 (by decide) ?_
  refine aw_iinc (j := 4) (v := x4 + (6 : Int32)) (L' := [(4, .int (x4 + (6 : Int32))), (0, .ref sb), (1, .ref (ad 0)), (2, .ref (ad 187)), (3, .ref (ad 217))]) dL_law_1550 rfl rfl (by decide) rfl ?_
  refine aw_goto (tgt := 23) dL_law_1553 (by decide) ?_
  exact aw_drop (Nat.le_succ _) (Nat.le_add_right _ _) (aw_sub [1, 2, 3, 4, 0] rfl h)
set_option maxRecDepth 100000 in
set_option maxHeartbeats 4000000 in
theorem g_L_law_787 {ad : Nat → Nat} {sb Ls kc ks : Nat} {xs : Nat → Int32} {d : Nat} {Q : Option Value → Wm → Prop} {m : Wm} {x4 : Int32} (h : (vp_in (x4 + (1 : Int32)) Ls ∧ (vp_in (x4 + (2 : Int32)) Ls ∧ (Ct ad μX11_judge d [.ref (ad 0), .int (xs (x4 + (1 : Int32)).toNatClampNeg), .int (xs (x4 + (2 : Int32)).toNatClampNeg)] m (fun r m1 => ∃ v2 : Int32, r = some (.int v2) ∧ (vp_in (x4 + (1 : Int32)) Ls ∧ (vp_in (x4 + (2 : Int32)) Ls ∧ (Ct ad μX12_judge d [.ref (ad 187), .int (xs (x4 + (1 : Int32)).toNatClampNeg), .int (xs (x4 + (2 : Int32)).toNatClampNeg)] m1 (fun r m3 => ∃ v4 : Int32, r = some (.int v4) ∧ AWl LAY ad (EX (SX sb Ls xs) kc ks LAY) μL_law (d + 1) Q 23 [(0, .ref sb), (1, .ref (ad 0)), (2, .ref (ad 187)), (3, .ref (ad 217)), (4, .int (x4 + (6 : Int32)))] [] m3))))))))) : AWl LAY ad (EX (SX sb Ls xs) (kc + 1) (ks + 6) LAY) μL_law (d + 1) Q 787 [(0, .ref sb), (1, .ref (ad 0)), (2, .ref (ad 187)), (3, .ref (ad 217)), (4, .int x4)] [] m := by
  refine aw_aload_n (j := 1) dL_law_787 rfl rfl ?_
  refine aw_aload_n (j := 0) dL_law_788 rfl rfl ?_
  refine aw_iload (j := 4) dL_law_789 rfl ?_
  refine aw_iconst (v := 1) dL_law_791 (by decide) ?_
  refine aw_iadd dL_law_792 ?_
  obtain ⟨hi, h⟩ := h
  refine aw_sld dL_law_793 hi ?_
  refine aw_aload_n (j := 0) dL_law_794 rfl rfl ?_
  refine aw_iload (j := 4) dL_law_795 rfl ?_
  refine aw_iconst (v := 2) dL_law_797 (by decide) ?_
  refine aw_iadd dL_law_798 ?_
  obtain ⟨hi, h⟩ := h
  refine aw_sld dL_law_799 hi ?_
  refine aw_callV (rest := []) [.int (xs (x4 + (1 : Int32)).toNatClampNeg), .int (xs (x4 + (2 : Int32)).toNatClampNeg)] dL_law_800 ly_0 rfl k_L_99 rfl h (Nat.le_of_ble_eq_true rfl) (fun v m1 h => ?_)
  obtain ⟨v2, rfl, h⟩ := h
  refine aw_eq (L' := [(0, .ref sb), (1, .ref (ad 0)), (2, .ref (ad 187)), (3, .ref (ad 217)), (4, .int x4)]) (st' := [.int v2]) (m' := m1) ?_ rfl rfl rfl
  refine aw_pop dL_law_803 rfl ?_
  refine aw_aload_n (j := 2) dL_law_804 rfl rfl ?_
  refine aw_aload_n (j := 0) dL_law_805 rfl rfl ?_
  refine aw_iload (j := 4) dL_law_806 rfl ?_
  refine aw_iconst (v := 1) dL_law_808 (by decide) ?_
  refine aw_iadd dL_law_809 ?_
  obtain ⟨hi, h⟩ := h
  refine aw_sld dL_law_810 hi ?_
  refine aw_aload_n (j := 0) dL_law_811 rfl rfl ?_
  refine aw_iload (j := 4) dL_law_812 rfl ?_
  refine aw_iconst (v := 2) dL_law_814 (by decide) ?_
  refine aw_iadd dL_law_815 ?_
  obtain ⟨hi, h⟩ := h
  refine aw_sld dL_law_816 hi ?_
  refine aw_callV (rest := []) [.int (xs (x4 + (1 : Int32)).toNatClampNeg), .int (xs (x4 + (2 : Int32)).toNatClampNeg)] dL_law_817 ly_187 rfl k_L_102 rfl h (Nat.le_of_ble_eq_true rfl) (fun v m3 h => ?_)
  obtain ⟨v4, rfl, h⟩ := h
  refine aw_eq (L' := [(0, .ref sb), (1, .ref (ad 0)), (2, .ref (ad 187)), (3, .ref (ad 217)), (4, .int x4)]) (st' := [.int v4]) (m' := m3) ?_ rfl rfl rfl
  refine aw_pop dL_law_820 rfl ?_
  refine aw_goto (tgt := 1550) dL_law_821 (by decide) ?_
  refine aw_iinc (j := 4) (v := x4 + (6 : Int32)) (L' := [(4, .int (x4 + (6 : Int32))), (0, .ref sb), (1, .ref (ad 0)), (2, .ref (ad 187)), (3, .ref (ad 217))]) dL_law_1550 rfl rfl (by decide) rfl ?_
  refine aw_goto (tgt := 23) dL_law_1553 (by decide) ?_
  exact aw_drop (Nat.le_succ _) (Nat.le_add_right _ _) (aw_sub [1, 2, 3, 4, 0] rfl h)
set_option maxRecDepth 100000 in
set_option maxHeartbeats 4000000 in
theorem g_L_law_824 {ad : Nat → Nat} {sb Ls kc ks : Nat} {xs : Nat → Int32} {d : Nat} {Q : Option Value → Wm → Prop} {m : Wm} {x4 : Int32} (h : (vp_in (x4 + (1 : Int32)) Ls ∧ (Ct ad μX11_rounds d [.ref (ad 0), .int (xs (x4 + (1 : Int32)).toNatClampNeg)] m (fun r m1 => ∃ v2 : Int32, r = some (.int v2) ∧ (vp_in (x4 + (1 : Int32)) Ls ∧ (Ct ad μX12_rounds d [.ref (ad 187), .int (xs (x4 + (1 : Int32)).toNatClampNeg)] m1 (fun r m3 => ∃ v4 : Int32, r = some (.int v4) ∧ AWl LAY ad (EX (SX sb Ls xs) kc ks LAY) μL_law (d + 1) Q 23 [(0, .ref sb), (1, .ref (ad 0)), (2, .ref (ad 187)), (3, .ref (ad 217)), (4, .int (x4 + (6 : Int32)))] [] m3))))))) : AWl LAY ad (EX (SX sb Ls xs) (kc + 1) (ks + 6) LAY) μL_law (d + 1) Q 824 [(0, .ref sb), (1, .ref (ad 0)), (2, .ref (ad 187)), (3, .ref (ad 217)), (4, .int x4)] [] m := by
  refine aw_aload_n (j := 1) dL_law_824 rfl rfl ?_
  refine aw_aload_n (j := 0) dL_law_825 rfl rfl ?_
  refine aw_iload (j := 4) dL_law_826 rfl ?_
  refine aw_iconst (v := 1) dL_law_828 (by decide) ?_
  refine aw_iadd dL_law_829 ?_
  obtain ⟨hi, h⟩ := h
  refine aw_sld dL_law_830 hi ?_
  refine aw_callV (rest := []) [.int (xs (x4 + (1 : Int32)).toNatClampNeg)] dL_law_831 ly_0 rfl k_L_103 rfl h (Nat.le_of_ble_eq_true rfl) (fun v m1 h => ?_)
  obtain ⟨v2, rfl, h⟩ := h
  refine aw_eq (L' := [(0, .ref sb), (1, .ref (ad 0)), (2, .ref (ad 187)), (3, .ref (ad 217)), (4, .int x4)]) (st' := [.int v2]) (m' := m1) ?_ rfl rfl rfl
  refine aw_pop dL_law_834 rfl ?_
  refine aw_aload_n (j := 2) dL_law_835 rfl rfl ?_
  refine aw_aload_n (j := 0) dL_law_836 rfl rfl ?_
  refine aw_iload (j := 4) dL_law_837 rfl ?_
  refine aw_iconst (v := 1) dL_law_839 (by decide) ?_
  refine aw_iadd dL_law_840 ?_
  obtain ⟨hi, h⟩ := h
  refine aw_sld dL_law_841 hi ?_
  refine aw_callV (rest := []) [.int (xs (x4 + (1 : Int32)).toNatClampNeg)] dL_law_842 ly_187 rfl k_L_106 rfl h (Nat.le_of_ble_eq_true rfl) (fun v m3 h => ?_)
  obtain ⟨v4, rfl, h⟩ := h
  refine aw_eq (L' := [(0, .ref sb), (1, .ref (ad 0)), (2, .ref (ad 187)), (3, .ref (ad 217)), (4, .int x4)]) (st' := [.int v4]) (m' := m3) ?_ rfl rfl rfl
  refine aw_pop dL_law_845 rfl ?_
  refine aw_goto (tgt := 1550) dL_law_846 (by decide) ?_
  refine aw_iinc (j := 4) (v := x4 + (6 : Int32)) (L' := [(4, .int (x4 + (6 : Int32))), (0, .ref sb), (1, .ref (ad 0)), (2, .ref (ad 187)), (3, .ref (ad 217))]) dL_law_1550 rfl rfl (by decide) rfl ?_
  refine aw_goto (tgt := 23) dL_law_1553 (by decide) ?_
  exact aw_drop (Nat.le_succ _) (Nat.le_add_right _ _) (aw_sub [1, 2, 3, 4, 0] rfl h)
set_option maxRecDepth 100000 in
set_option maxHeartbeats 4000000 in
theorem g_L_law_849 {ad : Nat → Nat} {sb Ls kc ks : Nat} {xs : Nat → Int32} {d : Nat} {Q : Option Value → Wm → Prop} {m : Wm} {x4 : Int32} (h : (vp_in (x4 + (1 : Int32)) Ls ∧ (Ct ad μX11_beats d [.ref (ad 0), .int (xs (x4 + (1 : Int32)).toNatClampNeg)] m (fun r m1 => ∃ v2 : Int32, r = some (.int v2) ∧ (vp_in (x4 + (1 : Int32)) Ls ∧ (Ct ad μX12_beats d [.ref (ad 187), .int (xs (x4 + (1 : Int32)).toNatClampNeg)] m1 (fun r m3 => ∃ v4 : Int32, r = some (.int v4) ∧ AWl LAY ad (EX (SX sb Ls xs) kc ks LAY) μL_law (d + 1) Q 23 [(0, .ref sb), (1, .ref (ad 0)), (2, .ref (ad 187)), (3, .ref (ad 217)), (4, .int (x4 + (6 : Int32)))] [] m3))))))) : AWl LAY ad (EX (SX sb Ls xs) (kc + 1) (ks + 6) LAY) μL_law (d + 1) Q 849 [(0, .ref sb), (1, .ref (ad 0)), (2, .ref (ad 187)), (3, .ref (ad 217)), (4, .int x4)] [] m := by
  refine aw_aload_n (j := 1) dL_law_849 rfl rfl ?_
  refine aw_aload_n (j := 0) dL_law_850 rfl rfl ?_
  refine aw_iload (j := 4) dL_law_851 rfl ?_
  refine aw_iconst (v := 1) dL_law_853 (by decide) ?_
  refine aw_iadd dL_law_854 ?_
  obtain ⟨hi, h⟩ := h
  refine aw_sld dL_law_855 hi ?_
  refine aw_callV (rest := []) [.int (xs (x4 + (1 : Int32)).toNatClampNeg)] dL_law_856 ly_0 rfl k_L_107 rfl h (Nat.le_of_ble_eq_true rfl) (fun v m1 h => ?_)
  obtain ⟨v2, rfl, h⟩ := h
  refine aw_eq (L' := [(0, .ref sb), (1, .ref (ad 0)), (2, .ref (ad 187)), (3, .ref (ad 217)), (4, .int x4)]) (st' := [.int v2]) (m' := m1) ?_ rfl rfl rfl
  refine aw_pop dL_law_859 rfl ?_
  refine aw_aload_n (j := 2) dL_law_860 rfl rfl ?_
  refine aw_aload_n (j := 0) dL_law_861 rfl rfl ?_
  refine aw_iload (j := 4) dL_law_862 rfl ?_
  refine aw_iconst (v := 1) dL_law_864 (by decide) ?_
  refine aw_iadd dL_law_865 ?_
  obtain ⟨hi, h⟩ := h
  refine aw_sld dL_law_866 hi ?_
  refine aw_callV (rest := []) [.int (xs (x4 + (1 : Int32)).toNatClampNeg)] dL_law_867 ly_187 rfl k_L_110 rfl h (Nat.le_of_ble_eq_true rfl) (fun v m3 h => ?_)
  obtain ⟨v4, rfl, h⟩ := h
  refine aw_eq (L' := [(0, .ref sb), (1, .ref (ad 0)), (2, .ref (ad 187)), (3, .ref (ad 217)), (4, .int x4)]) (st' := [.int v4]) (m' := m3) ?_ rfl rfl rfl
  refine aw_pop dL_law_870 rfl ?_
  refine aw_goto (tgt := 1550) dL_law_871 (by decide) ?_
  refine aw_iinc (j := 4) (v := x4 + (6 : Int32)) (L' := [(4, .int (x4 + (6 : Int32))), (0, .ref sb), (1, .ref (ad 0)), (2, .ref (ad 187)), (3, .ref (ad 217))]) dL_law_1550 rfl rfl (by decide) rfl ?_
  refine aw_goto (tgt := 23) dL_law_1553 (by decide) ?_
  exact aw_drop (Nat.le_succ _) (Nat.le_add_right _ _) (aw_sub [1, 2, 3, 4, 0] rfl h)
set_option maxRecDepth 100000 in
set_option maxHeartbeats 4000000 in
theorem g_L_law_874 {ad : Nat → Nat} {sb Ls kc ks : Nat} {xs : Nat → Int32} {d : Nat} {Q : Option Value → Wm → Prop} {m : Wm} {x4 : Int32} (h : (Ct ad μX11_kings d [.ref (ad 0)] m (fun r m1 => ∃ v2 : Int32, r = some (.int v2) ∧ (Ct ad μX12_kings d [.ref (ad 187)] m1 (fun r m3 => ∃ v4 : Int32, r = some (.int v4) ∧ AWl LAY ad (EX (SX sb Ls xs) kc ks LAY) μL_law (d + 1) Q 23 [(0, .ref sb), (1, .ref (ad 0)), (2, .ref (ad 187)), (3, .ref (ad 217)), (4, .int (x4 + (6 : Int32)))] [] m3))))) : AWl LAY ad (EX (SX sb Ls xs) (kc + 1) (ks + 6) LAY) μL_law (d + 1) Q 874 [(0, .ref sb), (1, .ref (ad 0)), (2, .ref (ad 187)), (3, .ref (ad 217)), (4, .int x4)] [] m := by
  refine aw_aload_n (j := 1) dL_law_874 rfl rfl ?_
  refine aw_callV (rest := []) [] dL_law_875 ly_0 rfl k_L_111 rfl h (Nat.le_of_ble_eq_true rfl) (fun v m1 h => ?_)
  obtain ⟨v2, rfl, h⟩ := h
  refine aw_eq (L' := [(0, .ref sb), (1, .ref (ad 0)), (2, .ref (ad 187)), (3, .ref (ad 217)), (4, .int x4)]) (st' := [.int v2]) (m' := m1) ?_ rfl rfl rfl
  refine aw_pop dL_law_878 rfl ?_
  refine aw_aload_n (j := 2) dL_law_879 rfl rfl ?_
  refine aw_callV (rest := []) [] dL_law_880 ly_187 rfl k_L_114 rfl h (Nat.le_of_ble_eq_true rfl) (fun v m3 h => ?_)
  obtain ⟨v4, rfl, h⟩ := h
  refine aw_eq (L' := [(0, .ref sb), (1, .ref (ad 0)), (2, .ref (ad 187)), (3, .ref (ad 217)), (4, .int x4)]) (st' := [.int v4]) (m' := m3) ?_ rfl rfl rfl
  refine aw_pop dL_law_883 rfl ?_
  refine aw_goto (tgt := 1550) dL_law_884 (by decide) ?_
  refine aw_iinc (j := 4) (v := x4 + (6 : Int32)) (L' := [(4, .int (x4 + (6 : Int32))), (0, .ref sb), (1, .ref (ad 0)), (2, .ref (ad 187)), (3, .ref (ad 217))]) dL_law_1550 rfl rfl (by decide) rfl ?_
  refine aw_goto (tgt := 23) dL_law_1553 (by decide) ?_
  exact aw_drop (Nat.le_succ _) (Nat.le_add_right _ _) (aw_sub [1, 2, 3, 4, 0] rfl h)
set_option maxRecDepth 100000 in
set_option maxHeartbeats 4000000 in
theorem g_L_law_887 {ad : Nat → Nat} {sb Ls kc ks : Nat} {xs : Nat → Int32} {d : Nat} {Q : Option Value → Wm → Prop} {m : Wm} {x4 : Int32} (h : (vp_in (x4 + (1 : Int32)) Ls ∧ (Ct ad μX11_master d [.ref (ad 0), .int (xs (x4 + (1 : Int32)).toNatClampNeg)] m (fun r m1 => ∃ v2 : Int32, r = some (.int v2) ∧ (vp_in (x4 + (1 : Int32)) Ls ∧ (Ct ad μX12_master d [.ref (ad 187), .int (xs (x4 + (1 : Int32)).toNatClampNeg)] m1 (fun r m3 => ∃ v4 : Int32, r = some (.int v4) ∧ AWl LAY ad (EX (SX sb Ls xs) kc ks LAY) μL_law (d + 1) Q 23 [(0, .ref sb), (1, .ref (ad 0)), (2, .ref (ad 187)), (3, .ref (ad 217)), (4, .int (x4 + (6 : Int32)))] [] m3))))))) : AWl LAY ad (EX (SX sb Ls xs) (kc + 1) (ks + 6) LAY) μL_law (d + 1) Q 887 [(0, .ref sb), (1, .ref (ad 0)), (2, .ref (ad 187)), (3, .ref (ad 217)), (4, .int x4)] [] m := by
  refine aw_aload_n (j := 1) dL_law_887 rfl rfl ?_
  refine aw_aload_n (j := 0) dL_law_888 rfl rfl ?_
  refine aw_iload (j := 4) dL_law_889 rfl ?_
  refine aw_iconst (v := 1) dL_law_891 (by decide) ?_
  refine aw_iadd dL_law_892 ?_
  obtain ⟨hi, h⟩ := h
  refine aw_sld dL_law_893 hi ?_
  refine aw_callV (rest := []) [.int (xs (x4 + (1 : Int32)).toNatClampNeg)] dL_law_894 ly_0 rfl k_L_115 rfl h (Nat.le_of_ble_eq_true rfl) (fun v m1 h => ?_)
  obtain ⟨v2, rfl, h⟩ := h
  refine aw_eq (L' := [(0, .ref sb), (1, .ref (ad 0)), (2, .ref (ad 187)), (3, .ref (ad 217)), (4, .int x4)]) (st' := [.int v2]) (m' := m1) ?_ rfl rfl rfl
  refine aw_pop dL_law_897 rfl ?_
  refine aw_aload_n (j := 2) dL_law_898 rfl rfl ?_
  refine aw_aload_n (j := 0) dL_law_899 rfl rfl ?_
  refine aw_iload (j := 4) dL_law_900 rfl ?_
  refine aw_iconst (v := 1) dL_law_902 (by decide) ?_
  refine aw_iadd dL_law_903 ?_
  obtain ⟨hi, h⟩ := h
  refine aw_sld dL_law_904 hi ?_
  refine aw_callV (rest := []) [.int (xs (x4 + (1 : Int32)).toNatClampNeg)] dL_law_905 ly_187 rfl k_L_118 rfl h (Nat.le_of_ble_eq_true rfl) (fun v m3 h => ?_)
  obtain ⟨v4, rfl, h⟩ := h
  refine aw_eq (L' := [(0, .ref sb), (1, .ref (ad 0)), (2, .ref (ad 187)), (3, .ref (ad 217)), (4, .int x4)]) (st' := [.int v4]) (m' := m3) ?_ rfl rfl rfl
  refine aw_pop dL_law_908 rfl ?_
  refine aw_goto (tgt := 1550) dL_law_909 (by decide) ?_
  refine aw_iinc (j := 4) (v := x4 + (6 : Int32)) (L' := [(4, .int (x4 + (6 : Int32))), (0, .ref sb), (1, .ref (ad 0)), (2, .ref (ad 187)), (3, .ref (ad 217))]) dL_law_1550 rfl rfl (by decide) rfl ?_
  refine aw_goto (tgt := 23) dL_law_1553 (by decide) ?_
  exact aw_drop (Nat.le_succ _) (Nat.le_add_right _ _) (aw_sub [1, 2, 3, 4, 0] rfl h)
set_option maxRecDepth 100000 in
set_option maxHeartbeats 4000000 in
theorem g_L_law_912 {ad : Nat → Nat} {sb Ls kc ks : Nat} {xs : Nat → Int32} {d : Nat} {Q : Option Value → Wm → Prop} {m : Wm} {x4 : Int32} (h : (Ct ad μX11_table d [.ref (ad 0)] m (fun r m1 => ∃ v2 : Int32, r = some (.int v2) ∧ (Ct ad μX12_table d [.ref (ad 187)] m1 (fun r m3 => ∃ v4 : Int32, r = some (.int v4) ∧ AWl LAY ad (EX (SX sb Ls xs) kc ks LAY) μL_law (d + 1) Q 23 [(0, .ref sb), (1, .ref (ad 0)), (2, .ref (ad 187)), (3, .ref (ad 217)), (4, .int (x4 + (6 : Int32)))] [] m3))))) : AWl LAY ad (EX (SX sb Ls xs) (kc + 1) (ks + 6) LAY) μL_law (d + 1) Q 912 [(0, .ref sb), (1, .ref (ad 0)), (2, .ref (ad 187)), (3, .ref (ad 217)), (4, .int x4)] [] m := by
  refine aw_aload_n (j := 1) dL_law_912 rfl rfl ?_
  refine aw_callV (rest := []) [] dL_law_913 ly_0 rfl k_L_119 rfl h (Nat.le_of_ble_eq_true rfl) (fun v m1 h => ?_)
  obtain ⟨v2, rfl, h⟩ := h
  refine aw_eq (L' := [(0, .ref sb), (1, .ref (ad 0)), (2, .ref (ad 187)), (3, .ref (ad 217)), (4, .int x4)]) (st' := [.int v2]) (m' := m1) ?_ rfl rfl rfl
  refine aw_pop dL_law_916 rfl ?_
  refine aw_aload_n (j := 2) dL_law_917 rfl rfl ?_
  refine aw_callV (rest := []) [] dL_law_918 ly_187 rfl k_L_122 rfl h (Nat.le_of_ble_eq_true rfl) (fun v m3 h => ?_)
  obtain ⟨v4, rfl, h⟩ := h
  refine aw_eq (L' := [(0, .ref sb), (1, .ref (ad 0)), (2, .ref (ad 187)), (3, .ref (ad 217)), (4, .int x4)]) (st' := [.int v4]) (m' := m3) ?_ rfl rfl rfl
  refine aw_pop dL_law_921 rfl ?_
  refine aw_goto (tgt := 1550) dL_law_922 (by decide) ?_
  refine aw_iinc (j := 4) (v := x4 + (6 : Int32)) (L' := [(4, .int (x4 + (6 : Int32))), (0, .ref sb), (1, .ref (ad 0)), (2, .ref (ad 187)), (3, .ref (ad 217))]) dL_law_1550 rfl rfl (by decide) rfl ?_
  refine aw_goto (tgt := 23) dL_law_1553 (by decide) ?_
  exact aw_drop (Nat.le_succ _) (Nat.le_add_right _ _) (aw_sub [1, 2, 3, 4, 0] rfl h)
set_option maxRecDepth 100000 in
set_option maxHeartbeats 4000000 in
theorem g_L_law_925 {ad : Nat → Nat} {sb Ls kc ks : Nat} {xs : Nat → Int32} {d : Nat} {Q : Option Value → Wm → Prop} {m : Wm} {x4 : Int32} (h : (Ct ad μX11_spread d [.ref (ad 0)] m (fun r m1 => ∃ v2 : Int32, r = some (.int v2) ∧ (Ct ad μX12_spread d [.ref (ad 187)] m1 (fun r m3 => ∃ v4 : Int32, r = some (.int v4) ∧ AWl LAY ad (EX (SX sb Ls xs) kc ks LAY) μL_law (d + 1) Q 23 [(0, .ref sb), (1, .ref (ad 0)), (2, .ref (ad 187)), (3, .ref (ad 217)), (4, .int (x4 + (6 : Int32)))] [] m3))))) : AWl LAY ad (EX (SX sb Ls xs) (kc + 1) (ks + 6) LAY) μL_law (d + 1) Q 925 [(0, .ref sb), (1, .ref (ad 0)), (2, .ref (ad 187)), (3, .ref (ad 217)), (4, .int x4)] [] m := by
  refine aw_aload_n (j := 1) dL_law_925 rfl rfl ?_
  refine aw_callV (rest := []) [] dL_law_926 ly_0 rfl k_L_123 rfl h (Nat.le_of_ble_eq_true rfl) (fun v m1 h => ?_)
  obtain ⟨v2, rfl, h⟩ := h
  refine aw_eq (L' := [(0, .ref sb), (1, .ref (ad 0)), (2, .ref (ad 187)), (3, .ref (ad 217)), (4, .int x4)]) (st' := [.int v2]) (m' := m1) ?_ rfl rfl rfl
  refine aw_pop dL_law_929 rfl ?_
  refine aw_aload_n (j := 2) dL_law_930 rfl rfl ?_
  refine aw_callV (rest := []) [] dL_law_931 ly_187 rfl k_L_126 rfl h (Nat.le_of_ble_eq_true rfl) (fun v m3 h => ?_)
  obtain ⟨v4, rfl, h⟩ := h
  refine aw_eq (L' := [(0, .ref sb), (1, .ref (ad 0)), (2, .ref (ad 187)), (3, .ref (ad 217)), (4, .int x4)]) (st' := [.int v4]) (m' := m3) ?_ rfl rfl rfl
  refine aw_pop dL_law_934 rfl ?_
  refine aw_goto (tgt := 1550) dL_law_935 (by decide) ?_
  refine aw_iinc (j := 4) (v := x4 + (6 : Int32)) (L' := [(4, .int (x4 + (6 : Int32))), (0, .ref sb), (1, .ref (ad 0)), (2, .ref (ad 187)), (3, .ref (ad 217))]) dL_law_1550 rfl rfl (by decide) rfl ?_
  refine aw_goto (tgt := 23) dL_law_1553 (by decide) ?_
  exact aw_drop (Nat.le_succ _) (Nat.le_add_right _ _) (aw_sub [1, 2, 3, 4, 0] rfl h)
set_option maxRecDepth 100000 in
set_option maxHeartbeats 4000000 in
theorem g_L_law_938 {ad : Nat → Nat} {sb Ls kc ks : Nat} {xs : Nat → Int32} {d : Nat} {Q : Option Value → Wm → Prop} {m : Wm} {x4 : Int32} (h : (Ct ad μX11_rest d [.ref (ad 0)] m (fun r m1 => ∃ v2 : Int32, r = some (.int v2) ∧ (Ct ad μX12_rest d [.ref (ad 187)] m1 (fun r m3 => ∃ v4 : Int32, r = some (.int v4) ∧ AWl LAY ad (EX (SX sb Ls xs) kc ks LAY) μL_law (d + 1) Q 23 [(0, .ref sb), (1, .ref (ad 0)), (2, .ref (ad 187)), (3, .ref (ad 217)), (4, .int (x4 + (6 : Int32)))] [] m3))))) : AWl LAY ad (EX (SX sb Ls xs) (kc + 1) (ks + 6) LAY) μL_law (d + 1) Q 938 [(0, .ref sb), (1, .ref (ad 0)), (2, .ref (ad 187)), (3, .ref (ad 217)), (4, .int x4)] [] m := by
  refine aw_aload_n (j := 1) dL_law_938 rfl rfl ?_
  refine aw_callV (rest := []) [] dL_law_939 ly_0 rfl k_L_127 rfl h (Nat.le_of_ble_eq_true rfl) (fun v m1 h => ?_)
  obtain ⟨v2, rfl, h⟩ := h
  refine aw_eq (L' := [(0, .ref sb), (1, .ref (ad 0)), (2, .ref (ad 187)), (3, .ref (ad 217)), (4, .int x4)]) (st' := [.int v2]) (m' := m1) ?_ rfl rfl rfl
  refine aw_pop dL_law_942 rfl ?_
  refine aw_aload_n (j := 2) dL_law_943 rfl rfl ?_
  refine aw_callV (rest := []) [] dL_law_944 ly_187 rfl k_L_130 rfl h (Nat.le_of_ble_eq_true rfl) (fun v m3 h => ?_)
  obtain ⟨v4, rfl, h⟩ := h
  refine aw_eq (L' := [(0, .ref sb), (1, .ref (ad 0)), (2, .ref (ad 187)), (3, .ref (ad 217)), (4, .int x4)]) (st' := [.int v4]) (m' := m3) ?_ rfl rfl rfl
  refine aw_pop dL_law_947 rfl ?_
  refine aw_goto (tgt := 1550) dL_law_948 (by decide) ?_
  refine aw_iinc (j := 4) (v := x4 + (6 : Int32)) (L' := [(4, .int (x4 + (6 : Int32))), (0, .ref sb), (1, .ref (ad 0)), (2, .ref (ad 187)), (3, .ref (ad 217))]) dL_law_1550 rfl rfl (by decide) rfl ?_
  refine aw_goto (tgt := 23) dL_law_1553 (by decide) ?_
  exact aw_drop (Nat.le_succ _) (Nat.le_add_right _ _) (aw_sub [1, 2, 3, 4, 0] rfl h)
set_option maxRecDepth 100000 in
set_option maxHeartbeats 4000000 in
theorem g_L_law_951 {ad : Nat → Nat} {sb Ls kc ks : Nat} {xs : Nat → Int32} {d : Nat} {Q : Option Value → Wm → Prop} {m : Wm} {x4 : Int32} (h : (vp_in (x4 + (1 : Int32)) Ls ∧ (vp_in (x4 + (2 : Int32)) Ls ∧ (Ct ad μX11_mean d [.ref (ad 0), .int (xs (x4 + (1 : Int32)).toNatClampNeg), .int (xs (x4 + (2 : Int32)).toNatClampNeg)] m (fun r m1 => ∃ v2 : Int32, r = some (.int v2) ∧ (vp_in (x4 + (1 : Int32)) Ls ∧ (vp_in (x4 + (2 : Int32)) Ls ∧ (Ct ad μX12_mean d [.ref (ad 187), .int (xs (x4 + (1 : Int32)).toNatClampNeg), .int (xs (x4 + (2 : Int32)).toNatClampNeg)] m1 (fun r m3 => ∃ v4 : Int32, r = some (.int v4) ∧ AWl LAY ad (EX (SX sb Ls xs) kc ks LAY) μL_law (d + 1) Q 23 [(0, .ref sb), (1, .ref (ad 0)), (2, .ref (ad 187)), (3, .ref (ad 217)), (4, .int (x4 + (6 : Int32)))] [] m3))))))))) : AWl LAY ad (EX (SX sb Ls xs) (kc + 1) (ks + 6) LAY) μL_law (d + 1) Q 951 [(0, .ref sb), (1, .ref (ad 0)), (2, .ref (ad 187)), (3, .ref (ad 217)), (4, .int x4)] [] m := by
  refine aw_aload_n (j := 1) dL_law_951 rfl rfl ?_
  refine aw_aload_n (j := 0) dL_law_952 rfl rfl ?_
  refine aw_iload (j := 4) dL_law_953 rfl ?_
  refine aw_iconst (v := 1) dL_law_955 (by decide) ?_
  refine aw_iadd dL_law_956 ?_
  obtain ⟨hi, h⟩ := h
  refine aw_sld dL_law_957 hi ?_
  refine aw_aload_n (j := 0) dL_law_958 rfl rfl ?_
  refine aw_iload (j := 4) dL_law_959 rfl ?_
  refine aw_iconst (v := 2) dL_law_961 (by decide) ?_
  refine aw_iadd dL_law_962 ?_
  obtain ⟨hi, h⟩ := h
  refine aw_sld dL_law_963 hi ?_
  refine aw_callV (rest := []) [.int (xs (x4 + (1 : Int32)).toNatClampNeg), .int (xs (x4 + (2 : Int32)).toNatClampNeg)] dL_law_964 ly_0 rfl k_L_131 rfl h (Nat.le_of_ble_eq_true rfl) (fun v m1 h => ?_)
  obtain ⟨v2, rfl, h⟩ := h
  refine aw_eq (L' := [(0, .ref sb), (1, .ref (ad 0)), (2, .ref (ad 187)), (3, .ref (ad 217)), (4, .int x4)]) (st' := [.int v2]) (m' := m1) ?_ rfl rfl rfl
  refine aw_pop dL_law_967 rfl ?_
  refine aw_aload_n (j := 2) dL_law_968 rfl rfl ?_
  refine aw_aload_n (j := 0) dL_law_969 rfl rfl ?_
  refine aw_iload (j := 4) dL_law_970 rfl ?_
  refine aw_iconst (v := 1) dL_law_972 (by decide) ?_
  refine aw_iadd dL_law_973 ?_
  obtain ⟨hi, h⟩ := h
  refine aw_sld dL_law_974 hi ?_
  refine aw_aload_n (j := 0) dL_law_975 rfl rfl ?_
  refine aw_iload (j := 4) dL_law_976 rfl ?_
  refine aw_iconst (v := 2) dL_law_978 (by decide) ?_
  refine aw_iadd dL_law_979 ?_
  obtain ⟨hi, h⟩ := h
  refine aw_sld dL_law_980 hi ?_
  refine aw_callV (rest := []) [.int (xs (x4 + (1 : Int32)).toNatClampNeg), .int (xs (x4 + (2 : Int32)).toNatClampNeg)] dL_law_981 ly_187 rfl k_L_134 rfl h (Nat.le_of_ble_eq_true rfl) (fun v m3 h => ?_)
  obtain ⟨v4, rfl, h⟩ := h
  refine aw_eq (L' := [(0, .ref sb), (1, .ref (ad 0)), (2, .ref (ad 187)), (3, .ref (ad 217)), (4, .int x4)]) (st' := [.int v4]) (m' := m3) ?_ rfl rfl rfl
  refine aw_pop dL_law_984 rfl ?_
  refine aw_goto (tgt := 1550) dL_law_985 (by decide) ?_
  refine aw_iinc (j := 4) (v := x4 + (6 : Int32)) (L' := [(4, .int (x4 + (6 : Int32))), (0, .ref sb), (1, .ref (ad 0)), (2, .ref (ad 187)), (3, .ref (ad 217))]) dL_law_1550 rfl rfl (by decide) rfl ?_
  refine aw_goto (tgt := 23) dL_law_1553 (by decide) ?_
  exact aw_drop (Nat.le_succ _) (Nat.le_add_right _ _) (aw_sub [1, 2, 3, 4, 0] rfl h)
set_option maxRecDepth 100000 in
set_option maxHeartbeats 4000000 in
theorem g_L_law_988 {ad : Nat → Nat} {sb Ls kc ks : Nat} {xs : Nat → Int32} {d : Nat} {Q : Option Value → Wm → Prop} {m : Wm} {x4 : Int32} (h : (vp_in (x4 + (1 : Int32)) Ls ∧ (vp_in (x4 + (2 : Int32)) Ls ∧ (vp_in (x4 + (3 : Int32)) Ls ∧ (Ct ad μX11_soon d [.ref (ad 0), .int (xs (x4 + (1 : Int32)).toNatClampNeg), .int (xs (x4 + (2 : Int32)).toNatClampNeg), .int (xs (x4 + (3 : Int32)).toNatClampNeg)] m (fun r m1 => ∃ v2 : Int32, r = some (.int v2) ∧ (vp_in (x4 + (1 : Int32)) Ls ∧ (vp_in (x4 + (2 : Int32)) Ls ∧ (vp_in (x4 + (3 : Int32)) Ls ∧ (Ct ad μX12_soon d [.ref (ad 187), .int (xs (x4 + (1 : Int32)).toNatClampNeg), .int (xs (x4 + (2 : Int32)).toNatClampNeg), .int (xs (x4 + (3 : Int32)).toNatClampNeg)] m1 (fun r m3 => ∃ v4 : Int32, r = some (.int v4) ∧ AWl LAY ad (EX (SX sb Ls xs) kc ks LAY) μL_law (d + 1) Q 23 [(0, .ref sb), (1, .ref (ad 0)), (2, .ref (ad 187)), (3, .ref (ad 217)), (4, .int (x4 + (6 : Int32)))] [] m3))))))))))) : AWl LAY ad (EX (SX sb Ls xs) (kc + 1) (ks + 6) LAY) μL_law (d + 1) Q 988 [(0, .ref sb), (1, .ref (ad 0)), (2, .ref (ad 187)), (3, .ref (ad 217)), (4, .int x4)] [] m := by
  refine aw_aload_n (j := 1) dL_law_988 rfl rfl ?_
  refine aw_aload_n (j := 0) dL_law_989 rfl rfl ?_
  refine aw_iload (j := 4) dL_law_990 rfl ?_
  refine aw_iconst (v := 1) dL_law_992 (by decide) ?_
  refine aw_iadd dL_law_993 ?_
  obtain ⟨hi, h⟩ := h
  refine aw_sld dL_law_994 hi ?_
  refine aw_aload_n (j := 0) dL_law_995 rfl rfl ?_
  refine aw_iload (j := 4) dL_law_996 rfl ?_
  refine aw_iconst (v := 2) dL_law_998 (by decide) ?_
  refine aw_iadd dL_law_999 ?_
  obtain ⟨hi, h⟩ := h
  refine aw_sld dL_law_1000 hi ?_
  refine aw_aload_n (j := 0) dL_law_1001 rfl rfl ?_
  refine aw_iload (j := 4) dL_law_1002 rfl ?_
  refine aw_iconst (v := 3) dL_law_1004 (by decide) ?_
  refine aw_iadd dL_law_1005 ?_
  obtain ⟨hi, h⟩ := h
  refine aw_sld dL_law_1006 hi ?_
  refine aw_callV (rest := []) [.int (xs (x4 + (1 : Int32)).toNatClampNeg), .int (xs (x4 + (2 : Int32)).toNatClampNeg), .int (xs (x4 + (3 : Int32)).toNatClampNeg)] dL_law_1007 ly_0 rfl k_L_135 rfl h (Nat.le_of_ble_eq_true rfl) (fun v m1 h => ?_)
  obtain ⟨v2, rfl, h⟩ := h
  refine aw_eq (L' := [(0, .ref sb), (1, .ref (ad 0)), (2, .ref (ad 187)), (3, .ref (ad 217)), (4, .int x4)]) (st' := [.int v2]) (m' := m1) ?_ rfl rfl rfl
  refine aw_pop dL_law_1010 rfl ?_
  refine aw_aload_n (j := 2) dL_law_1011 rfl rfl ?_
  refine aw_aload_n (j := 0) dL_law_1012 rfl rfl ?_
  refine aw_iload (j := 4) dL_law_1013 rfl ?_
  refine aw_iconst (v := 1) dL_law_1015 (by decide) ?_
  refine aw_iadd dL_law_1016 ?_
  obtain ⟨hi, h⟩ := h
  refine aw_sld dL_law_1017 hi ?_
  refine aw_aload_n (j := 0) dL_law_1018 rfl rfl ?_
  refine aw_iload (j := 4) dL_law_1019 rfl ?_
  refine aw_iconst (v := 2) dL_law_1021 (by decide) ?_
  refine aw_iadd dL_law_1022 ?_
  obtain ⟨hi, h⟩ := h
  refine aw_sld dL_law_1023 hi ?_
  refine aw_aload_n (j := 0) dL_law_1024 rfl rfl ?_
  refine aw_iload (j := 4) dL_law_1025 rfl ?_
  refine aw_iconst (v := 3) dL_law_1027 (by decide) ?_
  refine aw_iadd dL_law_1028 ?_
  obtain ⟨hi, h⟩ := h
  refine aw_sld dL_law_1029 hi ?_
  refine aw_callV (rest := []) [.int (xs (x4 + (1 : Int32)).toNatClampNeg), .int (xs (x4 + (2 : Int32)).toNatClampNeg), .int (xs (x4 + (3 : Int32)).toNatClampNeg)] dL_law_1030 ly_187 rfl k_L_138 rfl h (Nat.le_of_ble_eq_true rfl) (fun v m3 h => ?_)
  obtain ⟨v4, rfl, h⟩ := h
  refine aw_eq (L' := [(0, .ref sb), (1, .ref (ad 0)), (2, .ref (ad 187)), (3, .ref (ad 217)), (4, .int x4)]) (st' := [.int v4]) (m' := m3) ?_ rfl rfl rfl
  refine aw_pop dL_law_1033 rfl ?_
  refine aw_goto (tgt := 1550) dL_law_1034 (by decide) ?_
  refine aw_iinc (j := 4) (v := x4 + (6 : Int32)) (L' := [(4, .int (x4 + (6 : Int32))), (0, .ref sb), (1, .ref (ad 0)), (2, .ref (ad 187)), (3, .ref (ad 217))]) dL_law_1550 rfl rfl (by decide) rfl ?_
  refine aw_goto (tgt := 23) dL_law_1553 (by decide) ?_
  exact aw_drop (Nat.le_succ _) (Nat.le_add_right _ _) (aw_sub [1, 2, 3, 4, 0] rfl h)
set_option maxRecDepth 100000 in
set_option maxHeartbeats 4000000 in
theorem g_L_law_1037 {ad : Nat → Nat} {sb Ls kc ks : Nat} {xs : Nat → Int32} {d : Nat} {Q : Option Value → Wm → Prop} {m : Wm} {x4 : Int32} (h : (vp_in (x4 + (1 : Int32)) Ls ∧ (vp_in (x4 + (2 : Int32)) Ls ∧ (vp_in (x4 + (3 : Int32)) Ls ∧ (Ct ad μX11_wins d [.ref (ad 0), .int (xs (x4 + (1 : Int32)).toNatClampNeg), .int (xs (x4 + (2 : Int32)).toNatClampNeg), .int (xs (x4 + (3 : Int32)).toNatClampNeg)] m (fun r m1 => ∃ v2 : Int32, r = some (.int v2) ∧ (vp_in (x4 + (1 : Int32)) Ls ∧ (vp_in (x4 + (2 : Int32)) Ls ∧ (vp_in (x4 + (3 : Int32)) Ls ∧ (Ct ad μX12_wins d [.ref (ad 187), .int (xs (x4 + (1 : Int32)).toNatClampNeg), .int (xs (x4 + (2 : Int32)).toNatClampNeg), .int (xs (x4 + (3 : Int32)).toNatClampNeg)] m1 (fun r m3 => ∃ v4 : Int32, r = some (.int v4) ∧ AWl LAY ad (EX (SX sb Ls xs) kc ks LAY) μL_law (d + 1) Q 23 [(0, .ref sb), (1, .ref (ad 0)), (2, .ref (ad 187)), (3, .ref (ad 217)), (4, .int (x4 + (6 : Int32)))] [] m3))))))))))) : AWl LAY ad (EX (SX sb Ls xs) (kc + 1) (ks + 6) LAY) μL_law (d + 1) Q 1037 [(0, .ref sb), (1, .ref (ad 0)), (2, .ref (ad 187)), (3, .ref (ad 217)), (4, .int x4)] [] m := by
  refine aw_aload_n (j := 1) dL_law_1037 rfl rfl ?_
  refine aw_aload_n (j := 0) dL_law_1038 rfl rfl ?_
  refine aw_iload (j := 4) dL_law_1039 rfl ?_
  refine aw_iconst (v := 1) dL_law_1041 (by decide) ?_
  refine aw_iadd dL_law_1042 ?_
  obtain ⟨hi, h⟩ := h
  refine aw_sld dL_law_1043 hi ?_
  refine aw_aload_n (j := 0) dL_law_1044 rfl rfl ?_
  refine aw_iload (j := 4) dL_law_1045 rfl ?_
  refine aw_iconst (v := 2) dL_law_1047 (by decide) ?_
  refine aw_iadd dL_law_1048 ?_
  obtain ⟨hi, h⟩ := h
  refine aw_sld dL_law_1049 hi ?_
  refine aw_aload_n (j := 0) dL_law_1050 rfl rfl ?_
  refine aw_iload (j := 4) dL_law_1051 rfl ?_
  refine aw_iconst (v := 3) dL_law_1053 (by decide) ?_
  refine aw_iadd dL_law_1054 ?_
  obtain ⟨hi, h⟩ := h
  refine aw_sld dL_law_1055 hi ?_
  refine aw_callV (rest := []) [.int (xs (x4 + (1 : Int32)).toNatClampNeg), .int (xs (x4 + (2 : Int32)).toNatClampNeg), .int (xs (x4 + (3 : Int32)).toNatClampNeg)] dL_law_1056 ly_0 rfl k_L_139 rfl h (Nat.le_of_ble_eq_true rfl) (fun v m1 h => ?_)
  obtain ⟨v2, rfl, h⟩ := h
  refine aw_eq (L' := [(0, .ref sb), (1, .ref (ad 0)), (2, .ref (ad 187)), (3, .ref (ad 217)), (4, .int x4)]) (st' := [.int v2]) (m' := m1) ?_ rfl rfl rfl
  refine aw_pop dL_law_1059 rfl ?_
  refine aw_aload_n (j := 2) dL_law_1060 rfl rfl ?_
  refine aw_aload_n (j := 0) dL_law_1061 rfl rfl ?_
  refine aw_iload (j := 4) dL_law_1062 rfl ?_
  refine aw_iconst (v := 1) dL_law_1064 (by decide) ?_
  refine aw_iadd dL_law_1065 ?_
  obtain ⟨hi, h⟩ := h
  refine aw_sld dL_law_1066 hi ?_
  refine aw_aload_n (j := 0) dL_law_1067 rfl rfl ?_
  refine aw_iload (j := 4) dL_law_1068 rfl ?_
  refine aw_iconst (v := 2) dL_law_1070 (by decide) ?_
  refine aw_iadd dL_law_1071 ?_
  obtain ⟨hi, h⟩ := h
  refine aw_sld dL_law_1072 hi ?_
  refine aw_aload_n (j := 0) dL_law_1073 rfl rfl ?_
  refine aw_iload (j := 4) dL_law_1074 rfl ?_
  refine aw_iconst (v := 3) dL_law_1076 (by decide) ?_
  refine aw_iadd dL_law_1077 ?_
  obtain ⟨hi, h⟩ := h
  refine aw_sld dL_law_1078 hi ?_
  refine aw_callV (rest := []) [.int (xs (x4 + (1 : Int32)).toNatClampNeg), .int (xs (x4 + (2 : Int32)).toNatClampNeg), .int (xs (x4 + (3 : Int32)).toNatClampNeg)] dL_law_1079 ly_187 rfl k_L_142 rfl h (Nat.le_of_ble_eq_true rfl) (fun v m3 h => ?_)
  obtain ⟨v4, rfl, h⟩ := h
  refine aw_eq (L' := [(0, .ref sb), (1, .ref (ad 0)), (2, .ref (ad 187)), (3, .ref (ad 217)), (4, .int x4)]) (st' := [.int v4]) (m' := m3) ?_ rfl rfl rfl
  refine aw_pop dL_law_1082 rfl ?_
  refine aw_goto (tgt := 1550) dL_law_1083 (by decide) ?_
  refine aw_iinc (j := 4) (v := x4 + (6 : Int32)) (L' := [(4, .int (x4 + (6 : Int32))), (0, .ref sb), (1, .ref (ad 0)), (2, .ref (ad 187)), (3, .ref (ad 217))]) dL_law_1550 rfl rfl (by decide) rfl ?_
  refine aw_goto (tgt := 23) dL_law_1553 (by decide) ?_
  exact aw_drop (Nat.le_succ _) (Nat.le_add_right _ _) (aw_sub [1, 2, 3, 4, 0] rfl h)
set_option maxRecDepth 100000 in
set_option maxHeartbeats 4000000 in
theorem g_L_law_1086 {ad : Nat → Nat} {sb Ls kc ks : Nat} {xs : Nat → Int32} {d : Nat} {Q : Option Value → Wm → Prop} {m : Wm} {x4 : Int32} (h : (vp_in (x4 + (1 : Int32)) Ls ∧ (Ct ad μX11_hopes d [.ref (ad 0), .int (xs (x4 + (1 : Int32)).toNatClampNeg)] m (fun r m1 => ∃ v2 : Int32, r = some (.int v2) ∧ (vp_in (x4 + (1 : Int32)) Ls ∧ (Ct ad μX12_hopes d [.ref (ad 187), .int (xs (x4 + (1 : Int32)).toNatClampNeg)] m1 (fun r m3 => ∃ v4 : Int32, r = some (.int v4) ∧ AWl LAY ad (EX (SX sb Ls xs) kc ks LAY) μL_law (d + 1) Q 23 [(0, .ref sb), (1, .ref (ad 0)), (2, .ref (ad 187)), (3, .ref (ad 217)), (4, .int (x4 + (6 : Int32)))] [] m3))))))) : AWl LAY ad (EX (SX sb Ls xs) (kc + 1) (ks + 6) LAY) μL_law (d + 1) Q 1086 [(0, .ref sb), (1, .ref (ad 0)), (2, .ref (ad 187)), (3, .ref (ad 217)), (4, .int x4)] [] m := by
  refine aw_aload_n (j := 1) dL_law_1086 rfl rfl ?_
  refine aw_aload_n (j := 0) dL_law_1087 rfl rfl ?_
  refine aw_iload (j := 4) dL_law_1088 rfl ?_
  refine aw_iconst (v := 1) dL_law_1090 (by decide) ?_
  refine aw_iadd dL_law_1091 ?_
  obtain ⟨hi, h⟩ := h
  refine aw_sld dL_law_1092 hi ?_
  refine aw_callV (rest := []) [.int (xs (x4 + (1 : Int32)).toNatClampNeg)] dL_law_1093 ly_0 rfl k_L_143 rfl h (Nat.le_of_ble_eq_true rfl) (fun v m1 h => ?_)
  obtain ⟨v2, rfl, h⟩ := h
  refine aw_eq (L' := [(0, .ref sb), (1, .ref (ad 0)), (2, .ref (ad 187)), (3, .ref (ad 217)), (4, .int x4)]) (st' := [.int v2]) (m' := m1) ?_ rfl rfl rfl
  refine aw_pop dL_law_1096 rfl ?_
  refine aw_aload_n (j := 2) dL_law_1097 rfl rfl ?_
  refine aw_aload_n (j := 0) dL_law_1098 rfl rfl ?_
  refine aw_iload (j := 4) dL_law_1099 rfl ?_
  refine aw_iconst (v := 1) dL_law_1101 (by decide) ?_
  refine aw_iadd dL_law_1102 ?_
  obtain ⟨hi, h⟩ := h
  refine aw_sld dL_law_1103 hi ?_
  refine aw_callV (rest := []) [.int (xs (x4 + (1 : Int32)).toNatClampNeg)] dL_law_1104 ly_187 rfl k_L_146 rfl h (Nat.le_of_ble_eq_true rfl) (fun v m3 h => ?_)
  obtain ⟨v4, rfl, h⟩ := h
  refine aw_eq (L' := [(0, .ref sb), (1, .ref (ad 0)), (2, .ref (ad 187)), (3, .ref (ad 217)), (4, .int x4)]) (st' := [.int v4]) (m' := m3) ?_ rfl rfl rfl
  refine aw_pop dL_law_1107 rfl ?_
  refine aw_goto (tgt := 1550) dL_law_1108 (by decide) ?_
  refine aw_iinc (j := 4) (v := x4 + (6 : Int32)) (L' := [(4, .int (x4 + (6 : Int32))), (0, .ref sb), (1, .ref (ad 0)), (2, .ref (ad 187)), (3, .ref (ad 217))]) dL_law_1550 rfl rfl (by decide) rfl ?_
  refine aw_goto (tgt := 23) dL_law_1553 (by decide) ?_
  exact aw_drop (Nat.le_succ _) (Nat.le_add_right _ _) (aw_sub [1, 2, 3, 4, 0] rfl h)
set_option maxRecDepth 100000 in
set_option maxHeartbeats 4000000 in
theorem g_L_law_1111 {ad : Nat → Nat} {sb Ls kc ks : Nat} {xs : Nat → Int32} {d : Nat} {Q : Option Value → Wm → Prop} {m : Wm} {x4 : Int32} (h : (vp_in (x4 + (1 : Int32)) Ls ∧ (vp_in (x4 + (2 : Int32)) Ls ∧ (vp_in (x4 + (3 : Int32)) Ls ∧ (Ct ad μX11_top d [.ref (ad 0), .int (xs (x4 + (1 : Int32)).toNatClampNeg), .int (xs (x4 + (2 : Int32)).toNatClampNeg), .int (xs (x4 + (3 : Int32)).toNatClampNeg)] m (fun r m1 => ∃ v2 : Int32, r = some (.int v2) ∧ (vp_in (x4 + (1 : Int32)) Ls ∧ (vp_in (x4 + (2 : Int32)) Ls ∧ (vp_in (x4 + (3 : Int32)) Ls ∧ (Ct ad μX12_top d [.ref (ad 187), .int (xs (x4 + (1 : Int32)).toNatClampNeg), .int (xs (x4 + (2 : Int32)).toNatClampNeg), .int (xs (x4 + (3 : Int32)).toNatClampNeg)] m1 (fun r m3 => ∃ v4 : Int32, r = some (.int v4) ∧ AWl LAY ad (EX (SX sb Ls xs) kc ks LAY) μL_law (d + 1) Q 23 [(0, .ref sb), (1, .ref (ad 0)), (2, .ref (ad 187)), (3, .ref (ad 217)), (4, .int (x4 + (6 : Int32)))] [] m3))))))))))) : AWl LAY ad (EX (SX sb Ls xs) (kc + 1) (ks + 6) LAY) μL_law (d + 1) Q 1111 [(0, .ref sb), (1, .ref (ad 0)), (2, .ref (ad 187)), (3, .ref (ad 217)), (4, .int x4)] [] m := by
  refine aw_aload_n (j := 1) dL_law_1111 rfl rfl ?_
  refine aw_aload_n (j := 0) dL_law_1112 rfl rfl ?_
  refine aw_iload (j := 4) dL_law_1113 rfl ?_
  refine aw_iconst (v := 1) dL_law_1115 (by decide) ?_
  refine aw_iadd dL_law_1116 ?_
  obtain ⟨hi, h⟩ := h
  refine aw_sld dL_law_1117 hi ?_
  refine aw_aload_n (j := 0) dL_law_1118 rfl rfl ?_
  refine aw_iload (j := 4) dL_law_1119 rfl ?_
  refine aw_iconst (v := 2) dL_law_1121 (by decide) ?_
  refine aw_iadd dL_law_1122 ?_
  obtain ⟨hi, h⟩ := h
  refine aw_sld dL_law_1123 hi ?_
  refine aw_aload_n (j := 0) dL_law_1124 rfl rfl ?_
  refine aw_iload (j := 4) dL_law_1125 rfl ?_
  refine aw_iconst (v := 3) dL_law_1127 (by decide) ?_
  refine aw_iadd dL_law_1128 ?_
  obtain ⟨hi, h⟩ := h
  refine aw_sld dL_law_1129 hi ?_
  refine aw_callV (rest := []) [.int (xs (x4 + (1 : Int32)).toNatClampNeg), .int (xs (x4 + (2 : Int32)).toNatClampNeg), .int (xs (x4 + (3 : Int32)).toNatClampNeg)] dL_law_1130 ly_0 rfl k_L_147 rfl h (Nat.le_of_ble_eq_true rfl) (fun v m1 h => ?_)
  obtain ⟨v2, rfl, h⟩ := h
  refine aw_eq (L' := [(0, .ref sb), (1, .ref (ad 0)), (2, .ref (ad 187)), (3, .ref (ad 217)), (4, .int x4)]) (st' := [.int v2]) (m' := m1) ?_ rfl rfl rfl
  refine aw_pop dL_law_1133 rfl ?_
  refine aw_aload_n (j := 2) dL_law_1134 rfl rfl ?_
  refine aw_aload_n (j := 0) dL_law_1135 rfl rfl ?_
  refine aw_iload (j := 4) dL_law_1136 rfl ?_
  refine aw_iconst (v := 1) dL_law_1138 (by decide) ?_
  refine aw_iadd dL_law_1139 ?_
  obtain ⟨hi, h⟩ := h
  refine aw_sld dL_law_1140 hi ?_
  refine aw_aload_n (j := 0) dL_law_1141 rfl rfl ?_
  refine aw_iload (j := 4) dL_law_1142 rfl ?_
  refine aw_iconst (v := 2) dL_law_1144 (by decide) ?_
  refine aw_iadd dL_law_1145 ?_
  obtain ⟨hi, h⟩ := h
  refine aw_sld dL_law_1146 hi ?_
  refine aw_aload_n (j := 0) dL_law_1147 rfl rfl ?_
  refine aw_iload (j := 4) dL_law_1148 rfl ?_
  refine aw_iconst (v := 3) dL_law_1150 (by decide) ?_
  refine aw_iadd dL_law_1151 ?_
  obtain ⟨hi, h⟩ := h
  refine aw_sld dL_law_1152 hi ?_
  refine aw_callV (rest := []) [.int (xs (x4 + (1 : Int32)).toNatClampNeg), .int (xs (x4 + (2 : Int32)).toNatClampNeg), .int (xs (x4 + (3 : Int32)).toNatClampNeg)] dL_law_1153 ly_187 rfl k_L_150 rfl h (Nat.le_of_ble_eq_true rfl) (fun v m3 h => ?_)
  obtain ⟨v4, rfl, h⟩ := h
  refine aw_eq (L' := [(0, .ref sb), (1, .ref (ad 0)), (2, .ref (ad 187)), (3, .ref (ad 217)), (4, .int x4)]) (st' := [.int v4]) (m' := m3) ?_ rfl rfl rfl
  refine aw_pop dL_law_1156 rfl ?_
  refine aw_goto (tgt := 1550) dL_law_1157 (by decide) ?_
  refine aw_iinc (j := 4) (v := x4 + (6 : Int32)) (L' := [(4, .int (x4 + (6 : Int32))), (0, .ref sb), (1, .ref (ad 0)), (2, .ref (ad 187)), (3, .ref (ad 217))]) dL_law_1550 rfl rfl (by decide) rfl ?_
  refine aw_goto (tgt := 23) dL_law_1553 (by decide) ?_
  exact aw_drop (Nat.le_succ _) (Nat.le_add_right _ _) (aw_sub [1, 2, 3, 4, 0] rfl h)
set_option maxRecDepth 100000 in
set_option maxHeartbeats 4000000 in
theorem g_L_law_1160 {ad : Nat → Nat} {sb Ls kc ks : Nat} {xs : Nat → Int32} {d : Nat} {Q : Option Value → Wm → Prop} {m : Wm} {x4 : Int32} (h : (vp_in (x4 + (1 : Int32)) Ls ∧ (Ct ad μX11_quick d [.ref (ad 0), .int (xs (x4 + (1 : Int32)).toNatClampNeg)] m (fun r m1 => ∃ v2 : Int32, r = some (.int v2) ∧ (vp_in (x4 + (1 : Int32)) Ls ∧ (Ct ad μX12_quick d [.ref (ad 187), .int (xs (x4 + (1 : Int32)).toNatClampNeg)] m1 (fun r m3 => ∃ v4 : Int32, r = some (.int v4) ∧ AWl LAY ad (EX (SX sb Ls xs) kc ks LAY) μL_law (d + 1) Q 23 [(0, .ref sb), (1, .ref (ad 0)), (2, .ref (ad 187)), (3, .ref (ad 217)), (4, .int (x4 + (6 : Int32)))] [] m3))))))) : AWl LAY ad (EX (SX sb Ls xs) (kc + 1) (ks + 6) LAY) μL_law (d + 1) Q 1160 [(0, .ref sb), (1, .ref (ad 0)), (2, .ref (ad 187)), (3, .ref (ad 217)), (4, .int x4)] [] m := by
  refine aw_aload_n (j := 1) dL_law_1160 rfl rfl ?_
  refine aw_aload_n (j := 0) dL_law_1161 rfl rfl ?_
  refine aw_iload (j := 4) dL_law_1162 rfl ?_
  refine aw_iconst (v := 1) dL_law_1164 (by decide) ?_
  refine aw_iadd dL_law_1165 ?_
  obtain ⟨hi, h⟩ := h
  refine aw_sld dL_law_1166 hi ?_
  refine aw_callV (rest := []) [.int (xs (x4 + (1 : Int32)).toNatClampNeg)] dL_law_1167 ly_0 rfl k_L_151 rfl h (Nat.le_of_ble_eq_true rfl) (fun v m1 h => ?_)
  obtain ⟨v2, rfl, h⟩ := h
  refine aw_eq (L' := [(0, .ref sb), (1, .ref (ad 0)), (2, .ref (ad 187)), (3, .ref (ad 217)), (4, .int x4)]) (st' := [.int v2]) (m' := m1) ?_ rfl rfl rfl
  refine aw_pop dL_law_1170 rfl ?_
  refine aw_aload_n (j := 2) dL_law_1171 rfl rfl ?_
  refine aw_aload_n (j := 0) dL_law_1172 rfl rfl ?_
  refine aw_iload (j := 4) dL_law_1173 rfl ?_
  refine aw_iconst (v := 1) dL_law_1175 (by decide) ?_
  refine aw_iadd dL_law_1176 ?_
  obtain ⟨hi, h⟩ := h
  refine aw_sld dL_law_1177 hi ?_
  refine aw_callV (rest := []) [.int (xs (x4 + (1 : Int32)).toNatClampNeg)] dL_law_1178 ly_187 rfl k_L_154 rfl h (Nat.le_of_ble_eq_true rfl) (fun v m3 h => ?_)
  obtain ⟨v4, rfl, h⟩ := h
  refine aw_eq (L' := [(0, .ref sb), (1, .ref (ad 0)), (2, .ref (ad 187)), (3, .ref (ad 217)), (4, .int x4)]) (st' := [.int v4]) (m' := m3) ?_ rfl rfl rfl
  refine aw_pop dL_law_1181 rfl ?_
  refine aw_goto (tgt := 1550) dL_law_1182 (by decide) ?_
  refine aw_iinc (j := 4) (v := x4 + (6 : Int32)) (L' := [(4, .int (x4 + (6 : Int32))), (0, .ref sb), (1, .ref (ad 0)), (2, .ref (ad 187)), (3, .ref (ad 217))]) dL_law_1550 rfl rfl (by decide) rfl ?_
  refine aw_goto (tgt := 23) dL_law_1553 (by decide) ?_
  exact aw_drop (Nat.le_succ _) (Nat.le_add_right _ _) (aw_sub [1, 2, 3, 4, 0] rfl h)
set_option maxRecDepth 100000 in
set_option maxHeartbeats 4000000 in
theorem g_L_law_1185 {ad : Nat → Nat} {sb Ls kc ks : Nat} {xs : Nat → Int32} {d : Nat} {Q : Option Value → Wm → Prop} {m : Wm} {x4 : Int32} (h : (vp_in (x4 + (1 : Int32)) Ls ∧ (vp_in (x4 + (2 : Int32)) Ls ∧ (Ct ad μX11_best d [.ref (ad 0), .int (xs (x4 + (1 : Int32)).toNatClampNeg), .int (xs (x4 + (2 : Int32)).toNatClampNeg)] m (fun r m1 => ∃ v2 : Int32, r = some (.int v2) ∧ (vp_in (x4 + (1 : Int32)) Ls ∧ (vp_in (x4 + (2 : Int32)) Ls ∧ (Ct ad μX12_best d [.ref (ad 187), .int (xs (x4 + (1 : Int32)).toNatClampNeg), .int (xs (x4 + (2 : Int32)).toNatClampNeg)] m1 (fun r m3 => ∃ v4 : Int32, r = some (.int v4) ∧ AWl LAY ad (EX (SX sb Ls xs) kc ks LAY) μL_law (d + 1) Q 23 [(0, .ref sb), (1, .ref (ad 0)), (2, .ref (ad 187)), (3, .ref (ad 217)), (4, .int (x4 + (6 : Int32)))] [] m3))))))))) : AWl LAY ad (EX (SX sb Ls xs) (kc + 1) (ks + 6) LAY) μL_law (d + 1) Q 1185 [(0, .ref sb), (1, .ref (ad 0)), (2, .ref (ad 187)), (3, .ref (ad 217)), (4, .int x4)] [] m := by
  refine aw_aload_n (j := 1) dL_law_1185 rfl rfl ?_
  refine aw_aload_n (j := 0) dL_law_1186 rfl rfl ?_
  refine aw_iload (j := 4) dL_law_1187 rfl ?_
  refine aw_iconst (v := 1) dL_law_1189 (by decide) ?_
  refine aw_iadd dL_law_1190 ?_
  obtain ⟨hi, h⟩ := h
  refine aw_sld dL_law_1191 hi ?_
  refine aw_aload_n (j := 0) dL_law_1192 rfl rfl ?_
  refine aw_iload (j := 4) dL_law_1193 rfl ?_
  refine aw_iconst (v := 2) dL_law_1195 (by decide) ?_
  refine aw_iadd dL_law_1196 ?_
  obtain ⟨hi, h⟩ := h
  refine aw_sld dL_law_1197 hi ?_
  refine aw_callV (rest := []) [.int (xs (x4 + (1 : Int32)).toNatClampNeg), .int (xs (x4 + (2 : Int32)).toNatClampNeg)] dL_law_1198 ly_0 rfl k_L_155 rfl h (Nat.le_of_ble_eq_true rfl) (fun v m1 h => ?_)
  obtain ⟨v2, rfl, h⟩ := h
  refine aw_eq (L' := [(0, .ref sb), (1, .ref (ad 0)), (2, .ref (ad 187)), (3, .ref (ad 217)), (4, .int x4)]) (st' := [.int v2]) (m' := m1) ?_ rfl rfl rfl
  refine aw_pop dL_law_1201 rfl ?_
  refine aw_aload_n (j := 2) dL_law_1202 rfl rfl ?_
  refine aw_aload_n (j := 0) dL_law_1203 rfl rfl ?_
  refine aw_iload (j := 4) dL_law_1204 rfl ?_
  refine aw_iconst (v := 1) dL_law_1206 (by decide) ?_
  refine aw_iadd dL_law_1207 ?_
  obtain ⟨hi, h⟩ := h
  refine aw_sld dL_law_1208 hi ?_
  refine aw_aload_n (j := 0) dL_law_1209 rfl rfl ?_
  refine aw_iload (j := 4) dL_law_1210 rfl ?_
  refine aw_iconst (v := 2) dL_law_1212 (by decide) ?_
  refine aw_iadd dL_law_1213 ?_
  obtain ⟨hi, h⟩ := h
  refine aw_sld dL_law_1214 hi ?_
  refine aw_callV (rest := []) [.int (xs (x4 + (1 : Int32)).toNatClampNeg), .int (xs (x4 + (2 : Int32)).toNatClampNeg)] dL_law_1215 ly_187 rfl k_L_158 rfl h (Nat.le_of_ble_eq_true rfl) (fun v m3 h => ?_)
  obtain ⟨v4, rfl, h⟩ := h
  refine aw_eq (L' := [(0, .ref sb), (1, .ref (ad 0)), (2, .ref (ad 187)), (3, .ref (ad 217)), (4, .int x4)]) (st' := [.int v4]) (m' := m3) ?_ rfl rfl rfl
  refine aw_pop dL_law_1218 rfl ?_
  refine aw_goto (tgt := 1550) dL_law_1219 (by decide) ?_
  refine aw_iinc (j := 4) (v := x4 + (6 : Int32)) (L' := [(4, .int (x4 + (6 : Int32))), (0, .ref sb), (1, .ref (ad 0)), (2, .ref (ad 187)), (3, .ref (ad 217))]) dL_law_1550 rfl rfl (by decide) rfl ?_
  refine aw_goto (tgt := 23) dL_law_1553 (by decide) ?_
  exact aw_drop (Nat.le_succ _) (Nat.le_add_right _ _) (aw_sub [1, 2, 3, 4, 0] rfl h)
set_option maxRecDepth 100000 in
set_option maxHeartbeats 4000000 in
theorem g_L_law_1222 {ad : Nat → Nat} {sb Ls kc ks : Nat} {xs : Nat → Int32} {d : Nat} {Q : Option Value → Wm → Prop} {m : Wm} {x4 : Int32} (h : (vp_in (x4 + (1 : Int32)) Ls ∧ (Ct ad μX11_even d [.ref (ad 0), .int (xs (x4 + (1 : Int32)).toNatClampNeg)] m (fun r m1 => ∃ v2 : Int32, r = some (.int v2) ∧ (vp_in (x4 + (1 : Int32)) Ls ∧ (Ct ad μX12_even d [.ref (ad 187), .int (xs (x4 + (1 : Int32)).toNatClampNeg)] m1 (fun r m3 => ∃ v4 : Int32, r = some (.int v4) ∧ AWl LAY ad (EX (SX sb Ls xs) kc ks LAY) μL_law (d + 1) Q 23 [(0, .ref sb), (1, .ref (ad 0)), (2, .ref (ad 187)), (3, .ref (ad 217)), (4, .int (x4 + (6 : Int32)))] [] m3))))))) : AWl LAY ad (EX (SX sb Ls xs) (kc + 1) (ks + 6) LAY) μL_law (d + 1) Q 1222 [(0, .ref sb), (1, .ref (ad 0)), (2, .ref (ad 187)), (3, .ref (ad 217)), (4, .int x4)] [] m := by
  refine aw_aload_n (j := 1) dL_law_1222 rfl rfl ?_
  refine aw_aload_n (j := 0) dL_law_1223 rfl rfl ?_
  refine aw_iload (j := 4) dL_law_1224 rfl ?_
  refine aw_iconst (v := 1) dL_law_1226 (by decide) ?_
  refine aw_iadd dL_law_1227 ?_
  obtain ⟨hi, h⟩ := h
  refine aw_sld dL_law_1228 hi ?_
  refine aw_callV (rest := []) [.int (xs (x4 + (1 : Int32)).toNatClampNeg)] dL_law_1229 ly_0 rfl k_L_159 rfl h (Nat.le_of_ble_eq_true rfl) (fun v m1 h => ?_)
  obtain ⟨v2, rfl, h⟩ := h
  refine aw_eq (L' := [(0, .ref sb), (1, .ref (ad 0)), (2, .ref (ad 187)), (3, .ref (ad 217)), (4, .int x4)]) (st' := [.int v2]) (m' := m1) ?_ rfl rfl rfl
  refine aw_pop dL_law_1232 rfl ?_
  refine aw_aload_n (j := 2) dL_law_1233 rfl rfl ?_
  refine aw_aload_n (j := 0) dL_law_1234 rfl rfl ?_
  refine aw_iload (j := 4) dL_law_1235 rfl ?_
  refine aw_iconst (v := 1) dL_law_1237 (by decide) ?_
  refine aw_iadd dL_law_1238 ?_
  obtain ⟨hi, h⟩ := h
  refine aw_sld dL_law_1239 hi ?_
  refine aw_callV (rest := []) [.int (xs (x4 + (1 : Int32)).toNatClampNeg)] dL_law_1240 ly_187 rfl k_L_162 rfl h (Nat.le_of_ble_eq_true rfl) (fun v m3 h => ?_)
  obtain ⟨v4, rfl, h⟩ := h
  refine aw_eq (L' := [(0, .ref sb), (1, .ref (ad 0)), (2, .ref (ad 187)), (3, .ref (ad 217)), (4, .int x4)]) (st' := [.int v4]) (m' := m3) ?_ rfl rfl rfl
  refine aw_pop dL_law_1243 rfl ?_
  refine aw_goto (tgt := 1550) dL_law_1244 (by decide) ?_
  refine aw_iinc (j := 4) (v := x4 + (6 : Int32)) (L' := [(4, .int (x4 + (6 : Int32))), (0, .ref sb), (1, .ref (ad 0)), (2, .ref (ad 187)), (3, .ref (ad 217))]) dL_law_1550 rfl rfl (by decide) rfl ?_
  refine aw_goto (tgt := 23) dL_law_1553 (by decide) ?_
  exact aw_drop (Nat.le_succ _) (Nat.le_add_right _ _) (aw_sub [1, 2, 3, 4, 0] rfl h)
set_option maxRecDepth 100000 in
set_option maxHeartbeats 4000000 in
theorem g_L_law_1247 {ad : Nat → Nat} {sb Ls kc ks : Nat} {xs : Nat → Int32} {d : Nat} {Q : Option Value → Wm → Prop} {m : Wm} {x4 : Int32} (h : (Ct ad μX11_all d [.ref (ad 0)] m (fun r m1 => ∃ v2 : Int32, r = some (.int v2) ∧ (Ct ad μX12_all d [.ref (ad 187)] m1 (fun r m3 => ∃ v4 : Int32, r = some (.int v4) ∧ AWl LAY ad (EX (SX sb Ls xs) kc ks LAY) μL_law (d + 1) Q 23 [(0, .ref sb), (1, .ref (ad 0)), (2, .ref (ad 187)), (3, .ref (ad 217)), (4, .int (x4 + (6 : Int32)))] [] m3))))) : AWl LAY ad (EX (SX sb Ls xs) (kc + 1) (ks + 6) LAY) μL_law (d + 1) Q 1247 [(0, .ref sb), (1, .ref (ad 0)), (2, .ref (ad 187)), (3, .ref (ad 217)), (4, .int x4)] [] m := by
  refine aw_aload_n (j := 1) dL_law_1247 rfl rfl ?_
  refine aw_callV (rest := []) [] dL_law_1248 ly_0 rfl k_L_163 rfl h (Nat.le_of_ble_eq_true rfl) (fun v m1 h => ?_)
  obtain ⟨v2, rfl, h⟩ := h
  refine aw_eq (L' := [(0, .ref sb), (1, .ref (ad 0)), (2, .ref (ad 187)), (3, .ref (ad 217)), (4, .int x4)]) (st' := [.int v2]) (m' := m1) ?_ rfl rfl rfl
  refine aw_pop dL_law_1251 rfl ?_
  refine aw_aload_n (j := 2) dL_law_1252 rfl rfl ?_
  refine aw_callV (rest := []) [] dL_law_1253 ly_187 rfl k_L_166 rfl h (Nat.le_of_ble_eq_true rfl) (fun v m3 h => ?_)
  obtain ⟨v4, rfl, h⟩ := h
  refine aw_eq (L' := [(0, .ref sb), (1, .ref (ad 0)), (2, .ref (ad 187)), (3, .ref (ad 217)), (4, .int x4)]) (st' := [.int v4]) (m' := m3) ?_ rfl rfl rfl
  refine aw_pop dL_law_1256 rfl ?_
  refine aw_goto (tgt := 1550) dL_law_1257 (by decide) ?_
  refine aw_iinc (j := 4) (v := x4 + (6 : Int32)) (L' := [(4, .int (x4 + (6 : Int32))), (0, .ref sb), (1, .ref (ad 0)), (2, .ref (ad 187)), (3, .ref (ad 217))]) dL_law_1550 rfl rfl (by decide) rfl ?_
  refine aw_goto (tgt := 23) dL_law_1553 (by decide) ?_
  exact aw_drop (Nat.le_succ _) (Nat.le_add_right _ _) (aw_sub [1, 2, 3, 4, 0] rfl h)
set_option maxRecDepth 100000 in
set_option maxHeartbeats 4000000 in
theorem g_L_law_1260 {ad : Nat → Nat} {sb Ls kc ks : Nat} {xs : Nat → Int32} {d : Nat} {Q : Option Value → Wm → Prop} {m : Wm} {x4 : Int32} (h : (vp_in (x4 + (1 : Int32)) Ls ∧ (Ct ad μX11_next d [.ref (ad 0), .int (xs (x4 + (1 : Int32)).toNatClampNeg)] m (fun r m1 => ∃ v2 : Int32, r = some (.int v2) ∧ (vp_in (x4 + (1 : Int32)) Ls ∧ (Ct ad μX12_next d [.ref (ad 187), .int (xs (x4 + (1 : Int32)).toNatClampNeg)] m1 (fun r m3 => ∃ v4 : Int32, r = some (.int v4) ∧ AWl LAY ad (EX (SX sb Ls xs) kc ks LAY) μL_law (d + 1) Q 23 [(0, .ref sb), (1, .ref (ad 0)), (2, .ref (ad 187)), (3, .ref (ad 217)), (4, .int (x4 + (6 : Int32)))] [] m3))))))) : AWl LAY ad (EX (SX sb Ls xs) (kc + 1) (ks + 6) LAY) μL_law (d + 1) Q 1260 [(0, .ref sb), (1, .ref (ad 0)), (2, .ref (ad 187)), (3, .ref (ad 217)), (4, .int x4)] [] m := by
  refine aw_aload_n (j := 1) dL_law_1260 rfl rfl ?_
  refine aw_aload_n (j := 0) dL_law_1261 rfl rfl ?_
  refine aw_iload (j := 4) dL_law_1262 rfl ?_
  refine aw_iconst (v := 1) dL_law_1264 (by decide) ?_
  refine aw_iadd dL_law_1265 ?_
  obtain ⟨hi, h⟩ := h
  refine aw_sld dL_law_1266 hi ?_
  refine aw_callV (rest := []) [.int (xs (x4 + (1 : Int32)).toNatClampNeg)] dL_law_1267 ly_0 rfl k_L_167 rfl h (Nat.le_of_ble_eq_true rfl) (fun v m1 h => ?_)
  obtain ⟨v2, rfl, h⟩ := h
  refine aw_eq (L' := [(0, .ref sb), (1, .ref (ad 0)), (2, .ref (ad 187)), (3, .ref (ad 217)), (4, .int x4)]) (st' := [.int v2]) (m' := m1) ?_ rfl rfl rfl
  refine aw_pop dL_law_1270 rfl ?_
  refine aw_aload_n (j := 2) dL_law_1271 rfl rfl ?_
  refine aw_aload_n (j := 0) dL_law_1272 rfl rfl ?_
  refine aw_iload (j := 4) dL_law_1273 rfl ?_
  refine aw_iconst (v := 1) dL_law_1275 (by decide) ?_
  refine aw_iadd dL_law_1276 ?_
  obtain ⟨hi, h⟩ := h
  refine aw_sld dL_law_1277 hi ?_
  refine aw_callV (rest := []) [.int (xs (x4 + (1 : Int32)).toNatClampNeg)] dL_law_1278 ly_187 rfl k_L_170 rfl h (Nat.le_of_ble_eq_true rfl) (fun v m3 h => ?_)
  obtain ⟨v4, rfl, h⟩ := h
  refine aw_eq (L' := [(0, .ref sb), (1, .ref (ad 0)), (2, .ref (ad 187)), (3, .ref (ad 217)), (4, .int x4)]) (st' := [.int v4]) (m' := m3) ?_ rfl rfl rfl
  refine aw_pop dL_law_1281 rfl ?_
  refine aw_goto (tgt := 1550) dL_law_1282 (by decide) ?_
  refine aw_iinc (j := 4) (v := x4 + (6 : Int32)) (L' := [(4, .int (x4 + (6 : Int32))), (0, .ref sb), (1, .ref (ad 0)), (2, .ref (ad 187)), (3, .ref (ad 217))]) dL_law_1550 rfl rfl (by decide) rfl ?_
  refine aw_goto (tgt := 23) dL_law_1553 (by decide) ?_
  exact aw_drop (Nat.le_succ _) (Nat.le_add_right _ _) (aw_sub [1, 2, 3, 4, 0] rfl h)
set_option maxRecDepth 100000 in
set_option maxHeartbeats 4000000 in
theorem g_L_law_1285 {ad : Nat → Nat} {sb Ls kc ks : Nat} {xs : Nat → Int32} {d : Nat} {Q : Option Value → Wm → Prop} {m : Wm} {x4 : Int32} (h : (vp_in (x4 + (1 : Int32)) Ls ∧ (vp_in (x4 + (2 : Int32)) Ls ∧ (vp_in (x4 + (3 : Int32)) Ls ∧ (Ct ad μX11_seen d [.ref (ad 0), .int (xs (x4 + (1 : Int32)).toNatClampNeg), .int (xs (x4 + (2 : Int32)).toNatClampNeg), .int (xs (x4 + (3 : Int32)).toNatClampNeg)] m (fun r m1 => ∃ v2 : Int32, r = some (.int v2) ∧ (vp_in (x4 + (1 : Int32)) Ls ∧ (vp_in (x4 + (2 : Int32)) Ls ∧ (vp_in (x4 + (3 : Int32)) Ls ∧ (Ct ad μX12_seen d [.ref (ad 187), .int (xs (x4 + (1 : Int32)).toNatClampNeg), .int (xs (x4 + (2 : Int32)).toNatClampNeg), .int (xs (x4 + (3 : Int32)).toNatClampNeg)] m1 (fun r m3 => ∃ v4 : Int32, r = some (.int v4) ∧ AWl LAY ad (EX (SX sb Ls xs) kc ks LAY) μL_law (d + 1) Q 23 [(0, .ref sb), (1, .ref (ad 0)), (2, .ref (ad 187)), (3, .ref (ad 217)), (4, .int (x4 + (6 : Int32)))] [] m3))))))))))) : AWl LAY ad (EX (SX sb Ls xs) (kc + 1) (ks + 6) LAY) μL_law (d + 1) Q 1285 [(0, .ref sb), (1, .ref (ad 0)), (2, .ref (ad 187)), (3, .ref (ad 217)), (4, .int x4)] [] m := by
  refine aw_aload_n (j := 1) dL_law_1285 rfl rfl ?_
  refine aw_aload_n (j := 0) dL_law_1286 rfl rfl ?_
  refine aw_iload (j := 4) dL_law_1287 rfl ?_
  refine aw_iconst (v := 1) dL_law_1289 (by decide) ?_
  refine aw_iadd dL_law_1290 ?_
  obtain ⟨hi, h⟩ := h
  refine aw_sld dL_law_1291 hi ?_
  refine aw_aload_n (j := 0) dL_law_1292 rfl rfl ?_
  refine aw_iload (j := 4) dL_law_1293 rfl ?_
  refine aw_iconst (v := 2) dL_law_1295 (by decide) ?_
  refine aw_iadd dL_law_1296 ?_
  obtain ⟨hi, h⟩ := h
  refine aw_sld dL_law_1297 hi ?_
  refine aw_aload_n (j := 0) dL_law_1298 rfl rfl ?_
  refine aw_iload (j := 4) dL_law_1299 rfl ?_
  refine aw_iconst (v := 3) dL_law_1301 (by decide) ?_
  refine aw_iadd dL_law_1302 ?_
  obtain ⟨hi, h⟩ := h
  refine aw_sld dL_law_1303 hi ?_
  refine aw_callV (rest := []) [.int (xs (x4 + (1 : Int32)).toNatClampNeg), .int (xs (x4 + (2 : Int32)).toNatClampNeg), .int (xs (x4 + (3 : Int32)).toNatClampNeg)] dL_law_1304 ly_0 rfl k_L_171 rfl h (Nat.le_of_ble_eq_true rfl) (fun v m1 h => ?_)
  obtain ⟨v2, rfl, h⟩ := h
  refine aw_eq (L' := [(0, .ref sb), (1, .ref (ad 0)), (2, .ref (ad 187)), (3, .ref (ad 217)), (4, .int x4)]) (st' := [.int v2]) (m' := m1) ?_ rfl rfl rfl
  refine aw_pop dL_law_1307 rfl ?_
  refine aw_aload_n (j := 2) dL_law_1308 rfl rfl ?_
  refine aw_aload_n (j := 0) dL_law_1309 rfl rfl ?_
  refine aw_iload (j := 4) dL_law_1310 rfl ?_
  refine aw_iconst (v := 1) dL_law_1312 (by decide) ?_
  refine aw_iadd dL_law_1313 ?_
  obtain ⟨hi, h⟩ := h
  refine aw_sld dL_law_1314 hi ?_
  refine aw_aload_n (j := 0) dL_law_1315 rfl rfl ?_
  refine aw_iload (j := 4) dL_law_1316 rfl ?_
  refine aw_iconst (v := 2) dL_law_1318 (by decide) ?_
  refine aw_iadd dL_law_1319 ?_
  obtain ⟨hi, h⟩ := h
  refine aw_sld dL_law_1320 hi ?_
  refine aw_aload_n (j := 0) dL_law_1321 rfl rfl ?_
  refine aw_iload (j := 4) dL_law_1322 rfl ?_
  refine aw_iconst (v := 3) dL_law_1324 (by decide) ?_
  refine aw_iadd dL_law_1325 ?_
  obtain ⟨hi, h⟩ := h
  refine aw_sld dL_law_1326 hi ?_
  refine aw_callV (rest := []) [.int (xs (x4 + (1 : Int32)).toNatClampNeg), .int (xs (x4 + (2 : Int32)).toNatClampNeg), .int (xs (x4 + (3 : Int32)).toNatClampNeg)] dL_law_1327 ly_187 rfl k_L_174 rfl h (Nat.le_of_ble_eq_true rfl) (fun v m3 h => ?_)
  obtain ⟨v4, rfl, h⟩ := h
  refine aw_eq (L' := [(0, .ref sb), (1, .ref (ad 0)), (2, .ref (ad 187)), (3, .ref (ad 217)), (4, .int x4)]) (st' := [.int v4]) (m' := m3) ?_ rfl rfl rfl
  refine aw_pop dL_law_1330 rfl ?_
  refine aw_goto (tgt := 1550) dL_law_1331 (by decide) ?_
  refine aw_iinc (j := 4) (v := x4 + (6 : Int32)) (L' := [(4, .int (x4 + (6 : Int32))), (0, .ref sb), (1, .ref (ad 0)), (2, .ref (ad 187)), (3, .ref (ad 217))]) dL_law_1550 rfl rfl (by decide) rfl ?_
  refine aw_goto (tgt := 23) dL_law_1553 (by decide) ?_
  exact aw_drop (Nat.le_succ _) (Nat.le_add_right _ _) (aw_sub [1, 2, 3, 4, 0] rfl h)
set_option maxRecDepth 100000 in
set_option maxHeartbeats 4000000 in
theorem g_L_law_1334 {ad : Nat → Nat} {sb Ls kc ks : Nat} {xs : Nat → Int32} {d : Nat} {Q : Option Value → Wm → Prop} {m : Wm} {x4 : Int32} (h : (Ct ad μX11_found d [.ref (ad 0)] m (fun r m1 => ∃ v2 : Int32, r = some (.int v2) ∧ (Ct ad μX12_found d [.ref (ad 187)] m1 (fun r m3 => ∃ v4 : Int32, r = some (.int v4) ∧ AWl LAY ad (EX (SX sb Ls xs) kc ks LAY) μL_law (d + 1) Q 23 [(0, .ref sb), (1, .ref (ad 0)), (2, .ref (ad 187)), (3, .ref (ad 217)), (4, .int (x4 + (6 : Int32)))] [] m3))))) : AWl LAY ad (EX (SX sb Ls xs) (kc + 1) (ks + 6) LAY) μL_law (d + 1) Q 1334 [(0, .ref sb), (1, .ref (ad 0)), (2, .ref (ad 187)), (3, .ref (ad 217)), (4, .int x4)] [] m := by
  refine aw_aload_n (j := 1) dL_law_1334 rfl rfl ?_
  refine aw_callV (rest := []) [] dL_law_1335 ly_0 rfl k_L_175 rfl h (Nat.le_of_ble_eq_true rfl) (fun v m1 h => ?_)
  obtain ⟨v2, rfl, h⟩ := h
  refine aw_eq (L' := [(0, .ref sb), (1, .ref (ad 0)), (2, .ref (ad 187)), (3, .ref (ad 217)), (4, .int x4)]) (st' := [.int v2]) (m' := m1) ?_ rfl rfl rfl
  refine aw_pop dL_law_1338 rfl ?_
  refine aw_aload_n (j := 2) dL_law_1339 rfl rfl ?_
  refine aw_callV (rest := []) [] dL_law_1340 ly_187 rfl k_L_178 rfl h (Nat.le_of_ble_eq_true rfl) (fun v m3 h => ?_)
  obtain ⟨v4, rfl, h⟩ := h
  refine aw_eq (L' := [(0, .ref sb), (1, .ref (ad 0)), (2, .ref (ad 187)), (3, .ref (ad 217)), (4, .int x4)]) (st' := [.int v4]) (m' := m3) ?_ rfl rfl rfl
  refine aw_pop dL_law_1343 rfl ?_
  refine aw_goto (tgt := 1550) dL_law_1344 (by decide) ?_
  refine aw_iinc (j := 4) (v := x4 + (6 : Int32)) (L' := [(4, .int (x4 + (6 : Int32))), (0, .ref sb), (1, .ref (ad 0)), (2, .ref (ad 187)), (3, .ref (ad 217))]) dL_law_1550 rfl rfl (by decide) rfl ?_
  refine aw_goto (tgt := 23) dL_law_1553 (by decide) ?_
  exact aw_drop (Nat.le_succ _) (Nat.le_add_right _ _) (aw_sub [1, 2, 3, 4, 0] rfl h)
set_option maxRecDepth 100000 in
set_option maxHeartbeats 4000000 in
theorem g_L_law_1347 {ad : Nat → Nat} {sb Ls kc ks : Nat} {xs : Nat → Int32} {d : Nat} {Q : Option Value → Wm → Prop} {m : Wm} {x4 : Int32} (h : (Ct ad μX11_prize d [.ref (ad 0)] m (fun r m1 => ∃ v2 : Int32, r = some (.int v2) ∧ (Ct ad μX12_prize d [.ref (ad 187)] m1 (fun r m3 => ∃ v4 : Int32, r = some (.int v4) ∧ AWl LAY ad (EX (SX sb Ls xs) kc ks LAY) μL_law (d + 1) Q 23 [(0, .ref sb), (1, .ref (ad 0)), (2, .ref (ad 187)), (3, .ref (ad 217)), (4, .int (x4 + (6 : Int32)))] [] m3))))) : AWl LAY ad (EX (SX sb Ls xs) (kc + 1) (ks + 6) LAY) μL_law (d + 1) Q 1347 [(0, .ref sb), (1, .ref (ad 0)), (2, .ref (ad 187)), (3, .ref (ad 217)), (4, .int x4)] [] m := by
  refine aw_aload_n (j := 1) dL_law_1347 rfl rfl ?_
  refine aw_callV (rest := []) [] dL_law_1348 ly_0 rfl k_L_179 rfl h (Nat.le_of_ble_eq_true rfl) (fun v m1 h => ?_)
  obtain ⟨v2, rfl, h⟩ := h
  refine aw_eq (L' := [(0, .ref sb), (1, .ref (ad 0)), (2, .ref (ad 187)), (3, .ref (ad 217)), (4, .int x4)]) (st' := [.int v2]) (m' := m1) ?_ rfl rfl rfl
  refine aw_pop dL_law_1351 rfl ?_
  refine aw_aload_n (j := 2) dL_law_1352 rfl rfl ?_
  refine aw_callV (rest := []) [] dL_law_1353 ly_187 rfl k_L_182 rfl h (Nat.le_of_ble_eq_true rfl) (fun v m3 h => ?_)
  obtain ⟨v4, rfl, h⟩ := h
  refine aw_eq (L' := [(0, .ref sb), (1, .ref (ad 0)), (2, .ref (ad 187)), (3, .ref (ad 217)), (4, .int x4)]) (st' := [.int v4]) (m' := m3) ?_ rfl rfl rfl
  refine aw_pop dL_law_1356 rfl ?_
  refine aw_goto (tgt := 1550) dL_law_1357 (by decide) ?_
  refine aw_iinc (j := 4) (v := x4 + (6 : Int32)) (L' := [(4, .int (x4 + (6 : Int32))), (0, .ref sb), (1, .ref (ad 0)), (2, .ref (ad 187)), (3, .ref (ad 217))]) dL_law_1550 rfl rfl (by decide) rfl ?_
  refine aw_goto (tgt := 23) dL_law_1553 (by decide) ?_
  exact aw_drop (Nat.le_succ _) (Nat.le_add_right _ _) (aw_sub [1, 2, 3, 4, 0] rfl h)
set_option maxRecDepth 100000 in
set_option maxHeartbeats 4000000 in
theorem g_L_law_1360 {ad : Nat → Nat} {sb Ls kc ks : Nat} {xs : Nat → Int32} {d : Nat} {Q : Option Value → Wm → Prop} {m : Wm} {x4 : Int32} (h : (vp_in (x4 + (1 : Int32)) Ls ∧ (vp_in (x4 + (2 : Int32)) Ls ∧ (Ct ad μX11_pays d [.ref (ad 0), .int (xs (x4 + (1 : Int32)).toNatClampNeg), .int (xs (x4 + (2 : Int32)).toNatClampNeg)] m (fun r m1 => ∃ v2 : Int32, r = some (.int v2) ∧ (vp_in (x4 + (1 : Int32)) Ls ∧ (vp_in (x4 + (2 : Int32)) Ls ∧ (Ct ad μX12_pays d [.ref (ad 187), .int (xs (x4 + (1 : Int32)).toNatClampNeg), .int (xs (x4 + (2 : Int32)).toNatClampNeg)] m1 (fun r m3 => ∃ v4 : Int32, r = some (.int v4) ∧ AWl LAY ad (EX (SX sb Ls xs) kc ks LAY) μL_law (d + 1) Q 23 [(0, .ref sb), (1, .ref (ad 0)), (2, .ref (ad 187)), (3, .ref (ad 217)), (4, .int (x4 + (6 : Int32)))] [] m3))))))))) : AWl LAY ad (EX (SX sb Ls xs) (kc + 1) (ks + 6) LAY) μL_law (d + 1) Q 1360 [(0, .ref sb), (1, .ref (ad 0)), (2, .ref (ad 187)), (3, .ref (ad 217)), (4, .int x4)] [] m := by
  refine aw_aload_n (j := 1) dL_law_1360 rfl rfl ?_
  refine aw_aload_n (j := 0) dL_law_1361 rfl rfl ?_
  refine aw_iload (j := 4) dL_law_1362 rfl ?_
  refine aw_iconst (v := 1) dL_law_1364 (by decide) ?_
  refine aw_iadd dL_law_1365 ?_
  obtain ⟨hi, h⟩ := h
  refine aw_sld dL_law_1366 hi ?_
  refine aw_aload_n (j := 0) dL_law_1367 rfl rfl ?_
  refine aw_iload (j := 4) dL_law_1368 rfl ?_
  refine aw_iconst (v := 2) dL_law_1370 (by decide) ?_
  refine aw_iadd dL_law_1371 ?_
  obtain ⟨hi, h⟩ := h
  refine aw_sld dL_law_1372 hi ?_
  refine aw_callV (rest := []) [.int (xs (x4 + (1 : Int32)).toNatClampNeg), .int (xs (x4 + (2 : Int32)).toNatClampNeg)] dL_law_1373 ly_0 rfl k_L_183 rfl h (Nat.le_of_ble_eq_true rfl) (fun v m1 h => ?_)
  obtain ⟨v2, rfl, h⟩ := h
  refine aw_eq (L' := [(0, .ref sb), (1, .ref (ad 0)), (2, .ref (ad 187)), (3, .ref (ad 217)), (4, .int x4)]) (st' := [.int v2]) (m' := m1) ?_ rfl rfl rfl
  refine aw_pop dL_law_1376 rfl ?_
  refine aw_aload_n (j := 2) dL_law_1377 rfl rfl ?_
  refine aw_aload_n (j := 0) dL_law_1378 rfl rfl ?_
  refine aw_iload (j := 4) dL_law_1379 rfl ?_
  refine aw_iconst (v := 1) dL_law_1381 (by decide) ?_
  refine aw_iadd dL_law_1382 ?_
  obtain ⟨hi, h⟩ := h
  refine aw_sld dL_law_1383 hi ?_
  refine aw_aload_n (j := 0) dL_law_1384 rfl rfl ?_
  refine aw_iload (j := 4) dL_law_1385 rfl ?_
  refine aw_iconst (v := 2) dL_law_1387 (by decide) ?_
  refine aw_iadd dL_law_1388 ?_
  obtain ⟨hi, h⟩ := h
  refine aw_sld dL_law_1389 hi ?_
  refine aw_callV (rest := []) [.int (xs (x4 + (1 : Int32)).toNatClampNeg), .int (xs (x4 + (2 : Int32)).toNatClampNeg)] dL_law_1390 ly_187 rfl k_L_186 rfl h (Nat.le_of_ble_eq_true rfl) (fun v m3 h => ?_)
  obtain ⟨v4, rfl, h⟩ := h
  refine aw_eq (L' := [(0, .ref sb), (1, .ref (ad 0)), (2, .ref (ad 187)), (3, .ref (ad 217)), (4, .int x4)]) (st' := [.int v4]) (m' := m3) ?_ rfl rfl rfl
  refine aw_pop dL_law_1393 rfl ?_
  refine aw_goto (tgt := 1550) dL_law_1394 (by decide) ?_
  refine aw_iinc (j := 4) (v := x4 + (6 : Int32)) (L' := [(4, .int (x4 + (6 : Int32))), (0, .ref sb), (1, .ref (ad 0)), (2, .ref (ad 187)), (3, .ref (ad 217))]) dL_law_1550 rfl rfl (by decide) rfl ?_
  refine aw_goto (tgt := 23) dL_law_1553 (by decide) ?_
  exact aw_drop (Nat.le_succ _) (Nat.le_add_right _ _) (aw_sub [1, 2, 3, 4, 0] rfl h)
set_option maxRecDepth 100000 in
set_option maxHeartbeats 4000000 in
theorem g_L_law_1397 {ad : Nat → Nat} {sb Ls kc ks : Nat} {xs : Nat → Int32} {d : Nat} {Q : Option Value → Wm → Prop} {m : Wm} {x4 : Int32} (h : (vp_in (x4 + (1 : Int32)) Ls ∧ (Ct ad μX11_laws d [.ref (ad 0), .int (xs (x4 + (1 : Int32)).toNatClampNeg)] m (fun r m1 => ∃ v2 : Int32, r = some (.int v2) ∧ (vp_in (x4 + (1 : Int32)) Ls ∧ (Ct ad μX12_laws d [.ref (ad 187), .int (xs (x4 + (1 : Int32)).toNatClampNeg)] m1 (fun r m3 => ∃ v4 : Int32, r = some (.int v4) ∧ AWl LAY ad (EX (SX sb Ls xs) kc ks LAY) μL_law (d + 1) Q 23 [(0, .ref sb), (1, .ref (ad 0)), (2, .ref (ad 187)), (3, .ref (ad 217)), (4, .int (x4 + (6 : Int32)))] [] m3))))))) : AWl LAY ad (EX (SX sb Ls xs) (kc + 1) (ks + 6) LAY) μL_law (d + 1) Q 1397 [(0, .ref sb), (1, .ref (ad 0)), (2, .ref (ad 187)), (3, .ref (ad 217)), (4, .int x4)] [] m := by
  refine aw_aload_n (j := 1) dL_law_1397 rfl rfl ?_
  refine aw_aload_n (j := 0) dL_law_1398 rfl rfl ?_
  refine aw_iload (j := 4) dL_law_1399 rfl ?_
  refine aw_iconst (v := 1) dL_law_1401 (by decide) ?_
  refine aw_iadd dL_law_1402 ?_
  obtain ⟨hi, h⟩ := h
  refine aw_sld dL_law_1403 hi ?_
  refine aw_callV (rest := []) [.int (xs (x4 + (1 : Int32)).toNatClampNeg)] dL_law_1404 ly_0 rfl k_L_187 rfl h (Nat.le_of_ble_eq_true rfl) (fun v m1 h => ?_)
  obtain ⟨v2, rfl, h⟩ := h
  refine aw_eq (L' := [(0, .ref sb), (1, .ref (ad 0)), (2, .ref (ad 187)), (3, .ref (ad 217)), (4, .int x4)]) (st' := [.int v2]) (m' := m1) ?_ rfl rfl rfl
  refine aw_pop dL_law_1407 rfl ?_
  refine aw_aload_n (j := 2) dL_law_1408 rfl rfl ?_
  refine aw_aload_n (j := 0) dL_law_1409 rfl rfl ?_
  refine aw_iload (j := 4) dL_law_1410 rfl ?_
  refine aw_iconst (v := 1) dL_law_1412 (by decide) ?_
  refine aw_iadd dL_law_1413 ?_
  obtain ⟨hi, h⟩ := h
  refine aw_sld dL_law_1414 hi ?_
  refine aw_callV (rest := []) [.int (xs (x4 + (1 : Int32)).toNatClampNeg)] dL_law_1415 ly_187 rfl k_L_190 rfl h (Nat.le_of_ble_eq_true rfl) (fun v m3 h => ?_)
  obtain ⟨v4, rfl, h⟩ := h
  refine aw_eq (L' := [(0, .ref sb), (1, .ref (ad 0)), (2, .ref (ad 187)), (3, .ref (ad 217)), (4, .int x4)]) (st' := [.int v4]) (m' := m3) ?_ rfl rfl rfl
  refine aw_pop dL_law_1418 rfl ?_
  refine aw_goto (tgt := 1550) dL_law_1419 (by decide) ?_
  refine aw_iinc (j := 4) (v := x4 + (6 : Int32)) (L' := [(4, .int (x4 + (6 : Int32))), (0, .ref sb), (1, .ref (ad 0)), (2, .ref (ad 187)), (3, .ref (ad 217))]) dL_law_1550 rfl rfl (by decide) rfl ?_
  refine aw_goto (tgt := 23) dL_law_1553 (by decide) ?_
  exact aw_drop (Nat.le_succ _) (Nat.le_add_right _ _) (aw_sub [1, 2, 3, 4, 0] rfl h)
set_option maxRecDepth 100000 in
set_option maxHeartbeats 4000000 in
theorem g_L_law_1422 {ad : Nat → Nat} {sb Ls kc ks : Nat} {xs : Nat → Int32} {d : Nat} {Q : Option Value → Wm → Prop} {m : Wm} {x4 : Int32} (h : (vp_in (x4 + (1 : Int32)) Ls ∧ (Ct ad μX11_seed d [.ref (ad 0), .int (xs (x4 + (1 : Int32)).toNatClampNeg)] m (fun r m1 => ∃ v2 : Int32, r = some (.int v2) ∧ (vp_in (x4 + (1 : Int32)) Ls ∧ (Ct ad μX12_seed d [.ref (ad 187), .int (xs (x4 + (1 : Int32)).toNatClampNeg)] m1 (fun r m3 => ∃ v4 : Int32, r = some (.int v4) ∧ AWl LAY ad (EX (SX sb Ls xs) kc ks LAY) μL_law (d + 1) Q 23 [(0, .ref sb), (1, .ref (ad 0)), (2, .ref (ad 187)), (3, .ref (ad 217)), (4, .int (x4 + (6 : Int32)))] [] m3))))))) : AWl LAY ad (EX (SX sb Ls xs) (kc + 1) (ks + 6) LAY) μL_law (d + 1) Q 1422 [(0, .ref sb), (1, .ref (ad 0)), (2, .ref (ad 187)), (3, .ref (ad 217)), (4, .int x4)] [] m := by
  refine aw_aload_n (j := 1) dL_law_1422 rfl rfl ?_
  refine aw_aload_n (j := 0) dL_law_1423 rfl rfl ?_
  refine aw_iload (j := 4) dL_law_1424 rfl ?_
  refine aw_iconst (v := 1) dL_law_1426 (by decide) ?_
  refine aw_iadd dL_law_1427 ?_
  obtain ⟨hi, h⟩ := h
  refine aw_sld dL_law_1428 hi ?_
  refine aw_callV (rest := []) [.int (xs (x4 + (1 : Int32)).toNatClampNeg)] dL_law_1429 ly_0 rfl k_L_191 rfl h (Nat.le_of_ble_eq_true rfl) (fun v m1 h => ?_)
  obtain ⟨v2, rfl, h⟩ := h
  refine aw_eq (L' := [(0, .ref sb), (1, .ref (ad 0)), (2, .ref (ad 187)), (3, .ref (ad 217)), (4, .int x4)]) (st' := [.int v2]) (m' := m1) ?_ rfl rfl rfl
  refine aw_pop dL_law_1432 rfl ?_
  refine aw_aload_n (j := 2) dL_law_1433 rfl rfl ?_
  refine aw_aload_n (j := 0) dL_law_1434 rfl rfl ?_
  refine aw_iload (j := 4) dL_law_1435 rfl ?_
  refine aw_iconst (v := 1) dL_law_1437 (by decide) ?_
  refine aw_iadd dL_law_1438 ?_
  obtain ⟨hi, h⟩ := h
  refine aw_sld dL_law_1439 hi ?_
  refine aw_callV (rest := []) [.int (xs (x4 + (1 : Int32)).toNatClampNeg)] dL_law_1440 ly_187 rfl k_L_194 rfl h (Nat.le_of_ble_eq_true rfl) (fun v m3 h => ?_)
  obtain ⟨v4, rfl, h⟩ := h
  refine aw_eq (L' := [(0, .ref sb), (1, .ref (ad 0)), (2, .ref (ad 187)), (3, .ref (ad 217)), (4, .int x4)]) (st' := [.int v4]) (m' := m3) ?_ rfl rfl rfl
  refine aw_pop dL_law_1443 rfl ?_
  refine aw_goto (tgt := 1550) dL_law_1444 (by decide) ?_
  refine aw_iinc (j := 4) (v := x4 + (6 : Int32)) (L' := [(4, .int (x4 + (6 : Int32))), (0, .ref sb), (1, .ref (ad 0)), (2, .ref (ad 187)), (3, .ref (ad 217))]) dL_law_1550 rfl rfl (by decide) rfl ?_
  refine aw_goto (tgt := 23) dL_law_1553 (by decide) ?_
  exact aw_drop (Nat.le_succ _) (Nat.le_add_right _ _) (aw_sub [1, 2, 3, 4, 0] rfl h)
set_option maxRecDepth 100000 in
set_option maxHeartbeats 4000000 in
theorem g_L_law_1447 {ad : Nat → Nat} {sb Ls kc ks : Nat} {xs : Nat → Int32} {d : Nat} {Q : Option Value → Wm → Prop} {m : Wm} {x4 : Int32} (h : (vp_in (x4 + (1 : Int32)) Ls ∧ (Ct ad μX11_keep d [.ref (ad 0), .int (xs (x4 + (1 : Int32)).toNatClampNeg)] m (fun r m1 => ∃ v2 : Int32, r = some (.int v2) ∧ (vp_in (x4 + (1 : Int32)) Ls ∧ (Ct ad μX12_keep d [.ref (ad 187), .int (xs (x4 + (1 : Int32)).toNatClampNeg)] m1 (fun r m3 => ∃ v4 : Int32, r = some (.int v4) ∧ AWl LAY ad (EX (SX sb Ls xs) kc ks LAY) μL_law (d + 1) Q 23 [(0, .ref sb), (1, .ref (ad 0)), (2, .ref (ad 187)), (3, .ref (ad 217)), (4, .int (x4 + (6 : Int32)))] [] m3))))))) : AWl LAY ad (EX (SX sb Ls xs) (kc + 1) (ks + 6) LAY) μL_law (d + 1) Q 1447 [(0, .ref sb), (1, .ref (ad 0)), (2, .ref (ad 187)), (3, .ref (ad 217)), (4, .int x4)] [] m := by
  refine aw_aload_n (j := 1) dL_law_1447 rfl rfl ?_
  refine aw_aload_n (j := 0) dL_law_1448 rfl rfl ?_
  refine aw_iload (j := 4) dL_law_1449 rfl ?_
  refine aw_iconst (v := 1) dL_law_1451 (by decide) ?_
  refine aw_iadd dL_law_1452 ?_
  obtain ⟨hi, h⟩ := h
  refine aw_sld dL_law_1453 hi ?_
  refine aw_callV (rest := []) [.int (xs (x4 + (1 : Int32)).toNatClampNeg)] dL_law_1454 ly_0 rfl k_L_195 rfl h (Nat.le_of_ble_eq_true rfl) (fun v m1 h => ?_)
  obtain ⟨v2, rfl, h⟩ := h
  refine aw_eq (L' := [(0, .ref sb), (1, .ref (ad 0)), (2, .ref (ad 187)), (3, .ref (ad 217)), (4, .int x4)]) (st' := [.int v2]) (m' := m1) ?_ rfl rfl rfl
  refine aw_pop dL_law_1457 rfl ?_
  refine aw_aload_n (j := 2) dL_law_1458 rfl rfl ?_
  refine aw_aload_n (j := 0) dL_law_1459 rfl rfl ?_
  refine aw_iload (j := 4) dL_law_1460 rfl ?_
  refine aw_iconst (v := 1) dL_law_1462 (by decide) ?_
  refine aw_iadd dL_law_1463 ?_
  obtain ⟨hi, h⟩ := h
  refine aw_sld dL_law_1464 hi ?_
  refine aw_callV (rest := []) [.int (xs (x4 + (1 : Int32)).toNatClampNeg)] dL_law_1465 ly_187 rfl k_L_198 rfl h (Nat.le_of_ble_eq_true rfl) (fun v m3 h => ?_)
  obtain ⟨v4, rfl, h⟩ := h
  refine aw_eq (L' := [(0, .ref sb), (1, .ref (ad 0)), (2, .ref (ad 187)), (3, .ref (ad 217)), (4, .int x4)]) (st' := [.int v4]) (m' := m3) ?_ rfl rfl rfl
  refine aw_pop dL_law_1468 rfl ?_
  refine aw_goto (tgt := 1550) dL_law_1469 (by decide) ?_
  refine aw_iinc (j := 4) (v := x4 + (6 : Int32)) (L' := [(4, .int (x4 + (6 : Int32))), (0, .ref sb), (1, .ref (ad 0)), (2, .ref (ad 187)), (3, .ref (ad 217))]) dL_law_1550 rfl rfl (by decide) rfl ?_
  refine aw_goto (tgt := 23) dL_law_1553 (by decide) ?_
  exact aw_drop (Nat.le_succ _) (Nat.le_add_right _ _) (aw_sub [1, 2, 3, 4, 0] rfl h)
set_option maxRecDepth 100000 in
set_option maxHeartbeats 4000000 in
theorem g_L_law_1472 {ad : Nat → Nat} {sb Ls kc ks : Nat} {xs : Nat → Int32} {d : Nat} {Q : Option Value → Wm → Prop} {m : Wm} {x4 : Int32} (h : (vp_in (x4 + (1 : Int32)) Ls ∧ (Ct ad μX11_again d [.ref (ad 0), .int (xs (x4 + (1 : Int32)).toNatClampNeg)] m (fun r m1 => ∃ v2 : Int32, r = some (.int v2) ∧ (vp_in (x4 + (1 : Int32)) Ls ∧ (Ct ad μX12_again d [.ref (ad 187), .int (xs (x4 + (1 : Int32)).toNatClampNeg)] m1 (fun r m3 => ∃ v4 : Int32, r = some (.int v4) ∧ AWl LAY ad (EX (SX sb Ls xs) kc ks LAY) μL_law (d + 1) Q 23 [(0, .ref sb), (1, .ref (ad 0)), (2, .ref (ad 187)), (3, .ref (ad 217)), (4, .int (x4 + (6 : Int32)))] [] m3))))))) : AWl LAY ad (EX (SX sb Ls xs) (kc + 1) (ks + 6) LAY) μL_law (d + 1) Q 1472 [(0, .ref sb), (1, .ref (ad 0)), (2, .ref (ad 187)), (3, .ref (ad 217)), (4, .int x4)] [] m := by
  refine aw_aload_n (j := 1) dL_law_1472 rfl rfl ?_
  refine aw_aload_n (j := 0) dL_law_1473 rfl rfl ?_
  refine aw_iload (j := 4) dL_law_1474 rfl ?_
  refine aw_iconst (v := 1) dL_law_1476 (by decide) ?_
  refine aw_iadd dL_law_1477 ?_
  obtain ⟨hi, h⟩ := h
  refine aw_sld dL_law_1478 hi ?_
  refine aw_callV (rest := []) [.int (xs (x4 + (1 : Int32)).toNatClampNeg)] dL_law_1479 ly_0 rfl k_L_199 rfl h (Nat.le_of_ble_eq_true rfl) (fun v m1 h => ?_)
  obtain ⟨v2, rfl, h⟩ := h
  refine aw_eq (L' := [(0, .ref sb), (1, .ref (ad 0)), (2, .ref (ad 187)), (3, .ref (ad 217)), (4, .int x4)]) (st' := [.int v2]) (m' := m1) ?_ rfl rfl rfl
  refine aw_pop dL_law_1482 rfl ?_
  refine aw_aload_n (j := 2) dL_law_1483 rfl rfl ?_
  refine aw_aload_n (j := 0) dL_law_1484 rfl rfl ?_
  refine aw_iload (j := 4) dL_law_1485 rfl ?_
  refine aw_iconst (v := 1) dL_law_1487 (by decide) ?_
  refine aw_iadd dL_law_1488 ?_
  obtain ⟨hi, h⟩ := h
  refine aw_sld dL_law_1489 hi ?_
  refine aw_callV (rest := []) [.int (xs (x4 + (1 : Int32)).toNatClampNeg)] dL_law_1490 ly_187 rfl k_L_202 rfl h (Nat.le_of_ble_eq_true rfl) (fun v m3 h => ?_)
  obtain ⟨v4, rfl, h⟩ := h
  refine aw_eq (L' := [(0, .ref sb), (1, .ref (ad 0)), (2, .ref (ad 187)), (3, .ref (ad 217)), (4, .int x4)]) (st' := [.int v4]) (m' := m3) ?_ rfl rfl rfl
  refine aw_pop dL_law_1493 rfl ?_
  refine aw_goto (tgt := 1550) dL_law_1494 (by decide) ?_
  refine aw_iinc (j := 4) (v := x4 + (6 : Int32)) (L' := [(4, .int (x4 + (6 : Int32))), (0, .ref sb), (1, .ref (ad 0)), (2, .ref (ad 187)), (3, .ref (ad 217))]) dL_law_1550 rfl rfl (by decide) rfl ?_
  refine aw_goto (tgt := 23) dL_law_1553 (by decide) ?_
  exact aw_drop (Nat.le_succ _) (Nat.le_add_right _ _) (aw_sub [1, 2, 3, 4, 0] rfl h)
set_option maxRecDepth 100000 in
set_option maxHeartbeats 4000000 in
theorem g_L_law_1497 {ad : Nat → Nat} {sb Ls kc ks : Nat} {xs : Nat → Int32} {d : Nat} {Q : Option Value → Wm → Prop} {m : Wm} {x4 : Int32} (h : (vp_in (x4 + (1 : Int32)) Ls ∧ (Ct ad μX11_count d [.ref (ad 0), .int (xs (x4 + (1 : Int32)).toNatClampNeg)] m (fun r m1 => ∃ v2 : Int32, r = some (.int v2) ∧ (vp_in (x4 + (1 : Int32)) Ls ∧ (Ct ad μX12_count d [.ref (ad 187), .int (xs (x4 + (1 : Int32)).toNatClampNeg)] m1 (fun r m3 => ∃ v4 : Int32, r = some (.int v4) ∧ AWl LAY ad (EX (SX sb Ls xs) kc ks LAY) μL_law (d + 1) Q 23 [(0, .ref sb), (1, .ref (ad 0)), (2, .ref (ad 187)), (3, .ref (ad 217)), (4, .int (x4 + (6 : Int32)))] [] m3))))))) : AWl LAY ad (EX (SX sb Ls xs) (kc + 1) (ks + 6) LAY) μL_law (d + 1) Q 1497 [(0, .ref sb), (1, .ref (ad 0)), (2, .ref (ad 187)), (3, .ref (ad 217)), (4, .int x4)] [] m := by
  refine aw_aload_n (j := 1) dL_law_1497 rfl rfl ?_
  refine aw_aload_n (j := 0) dL_law_1498 rfl rfl ?_
  refine aw_iload (j := 4) dL_law_1499 rfl ?_
  refine aw_iconst (v := 1) dL_law_1501 (by decide) ?_
  refine aw_iadd dL_law_1502 ?_
  obtain ⟨hi, h⟩ := h
  refine aw_sld dL_law_1503 hi ?_
  refine aw_callV (rest := []) [.int (xs (x4 + (1 : Int32)).toNatClampNeg)] dL_law_1504 ly_0 rfl k_L_203 rfl h (Nat.le_of_ble_eq_true rfl) (fun v m1 h => ?_)
  obtain ⟨v2, rfl, h⟩ := h
  refine aw_eq (L' := [(0, .ref sb), (1, .ref (ad 0)), (2, .ref (ad 187)), (3, .ref (ad 217)), (4, .int x4)]) (st' := [.int v2]) (m' := m1) ?_ rfl rfl rfl
  refine aw_pop dL_law_1507 rfl ?_
  refine aw_aload_n (j := 2) dL_law_1508 rfl rfl ?_
  refine aw_aload_n (j := 0) dL_law_1509 rfl rfl ?_
  refine aw_iload (j := 4) dL_law_1510 rfl ?_
  refine aw_iconst (v := 1) dL_law_1512 (by decide) ?_
  refine aw_iadd dL_law_1513 ?_
  obtain ⟨hi, h⟩ := h
  refine aw_sld dL_law_1514 hi ?_
  refine aw_callV (rest := []) [.int (xs (x4 + (1 : Int32)).toNatClampNeg)] dL_law_1515 ly_187 rfl k_L_206 rfl h (Nat.le_of_ble_eq_true rfl) (fun v m3 h => ?_)
  obtain ⟨v4, rfl, h⟩ := h
  refine aw_eq (L' := [(0, .ref sb), (1, .ref (ad 0)), (2, .ref (ad 187)), (3, .ref (ad 217)), (4, .int x4)]) (st' := [.int v4]) (m' := m3) ?_ rfl rfl rfl
  refine aw_pop dL_law_1518 rfl ?_
  refine aw_goto (tgt := 1550) dL_law_1519 (by decide) ?_
  refine aw_iinc (j := 4) (v := x4 + (6 : Int32)) (L' := [(4, .int (x4 + (6 : Int32))), (0, .ref sb), (1, .ref (ad 0)), (2, .ref (ad 187)), (3, .ref (ad 217))]) dL_law_1550 rfl rfl (by decide) rfl ?_
  refine aw_goto (tgt := 23) dL_law_1553 (by decide) ?_
  exact aw_drop (Nat.le_succ _) (Nat.le_add_right _ _) (aw_sub [1, 2, 3, 4, 0] rfl h)
set_option maxRecDepth 100000 in
set_option maxHeartbeats 4000000 in
theorem g_L_law_1522 {ad : Nat → Nat} {sb Ls kc ks : Nat} {xs : Nat → Int32} {d : Nat} {Q : Option Value → Wm → Prop} {m : Wm} {x4 : Int32} (h : (vp_in (x4 + (1 : Int32)) Ls ∧ (Ctg ad μL_row hL_row d 1 6 [.ref (ad 0), .int (xs (x4 + (1 : Int32)).toNatClampNeg), .ref (ad 217)] m (fun r m1 => ∃ v2 : Int32, r = some (.int v2) ∧ (vp_in (x4 + (1 : Int32)) Ls ∧ (Ct ad μX12_row d [.ref (ad 187), .int (xs (x4 + (1 : Int32)).toNatClampNeg)] m1 (fun r m3 => ∃ w4 : Int64, r = some (.long w4) ∧ AWl LAY ad (EX (SX sb Ls xs) kc ks LAY) μL_law (d + 1) Q 23 [(0, .ref sb), (1, .ref (ad 0)), (2, .ref (ad 187)), (3, .ref (ad 217)), (4, .int (x4 + (6 : Int32)))] [] m3))))))) : AWl LAY ad (EX (SX sb Ls xs) (kc + 1) (ks + 6) LAY) μL_law (d + 1) Q 1522 [(0, .ref sb), (1, .ref (ad 0)), (2, .ref (ad 187)), (3, .ref (ad 217)), (4, .int x4)] [] m := by
  refine aw_aload_n (j := 1) dL_law_1522 rfl rfl ?_
  refine aw_aload_n (j := 0) dL_law_1523 rfl rfl ?_
  refine aw_iload (j := 4) dL_law_1524 rfl ?_
  refine aw_iconst (v := 1) dL_law_1526 (by decide) ?_
  refine aw_iadd dL_law_1527 ?_
  obtain ⟨hi, h⟩ := h
  refine aw_sld dL_law_1528 hi ?_
  refine aw_aload_n (j := 3) dL_law_1529 rfl rfl ?_
  refine aw_callSg (rest := []) [.ref (ad 0), .int (xs (x4 + (1 : Int32)).toNatClampNeg), .ref (ad 217)] dL_law_1530 k_L_207 rfl h (Nat.le_of_ble_eq_true rfl) (fun v m1 h => ?_)
  obtain ⟨v2, rfl, h⟩ := h
  refine aw_eq (L' := [(0, .ref sb), (1, .ref (ad 0)), (2, .ref (ad 187)), (3, .ref (ad 217)), (4, .int x4)]) (st' := [.int v2]) (m' := m1) ?_ rfl rfl rfl
  refine aw_istore (L' := [(5, .int v2), (0, .ref sb), (1, .ref (ad 0)), (2, .ref (ad 187)), (3, .ref (ad 217)), (4, .int x4)]) dL_law_1533 (by decide) rfl ?_
  refine aw_aload_n (j := 3) dL_law_1535 rfl rfl ?_
  refine aw_aload_n (j := 1) dL_law_1536 rfl rfl ?_
  refine aw_iload (j := 5) dL_law_1537 rfl ?_
  refine aw_iconst (v := 1) dL_law_1539 (by decide) ?_
  refine aw_iadd dL_law_1540 ?_
  obtain ⟨hi, h⟩ := h
  refine aw_sld dL_law_1541 hi ?_
  refine aw_callV (rest := []) [.int (xs (x4 + (1 : Int32)).toNatClampNeg)] dL_law_1542 ly_187 rfl k_L_210 rfl h (Nat.le_of_ble_eq_true rfl) (fun v m3 h => ?_)
  obtain ⟨w4, rfl, h⟩ := h
  refine aw_eq (L' := [(5, .int v2), (0, .ref sb), (1, .ref (ad 0)), (2, .ref (ad 187)), (3, .ref (ad 217)), (4, .int x4)]) (st' := [.long w4]) (m' := m3) ?_ rfl rfl rfl
  refine aw_lstore (L' := [(6, .long w4), (5, .int v2), (0, .ref sb), (1, .ref (ad 0)), (2, .ref (ad 187)), (3, .ref (ad 217)), (4, .int x4)]) dL_law_1545 (by decide) rfl ?_
  refine aw_goto (tgt := 1550) dL_law_1547 (by decide) ?_
  refine aw_iinc (j := 6) (v := x4 + (6 : Int32)) (L' := [(4, .int (x4 + (6 : Int32))), (6, .long w4), (5, .int v2), (0, .ref sb), (1, .ref (ad 0)), (2, .ref (ad 187)), (3, .ref (ad 217))]) dL_law_1550 rfl rfl (by decide) rfl ?_
  refine aw_goto (tgt := 23) dL_law_1553 (by decide) ?_
  exact aw_sub [3, 4, 5, 6, 0] rfl h
end
section
/-! THE LAW'S START: both objects, the law's long[1], and what they hold -/
def mz : Wm := (fun _ _ => 0, fun _ _ => 0, fun _ _ => none)
def lay1 : List Ent := N_X11 (ps [] (.inl (11, [2, 2, 2, 2, 2, 2, 2, 2, 2, 2, 2, 0, 2, 2, 2, 0, 2, 2, 0])))
def lay2 : List Ent := N_X12 (ps lay1 (.inl (12, [0, 0, 2, 2, 2, 2, 2, 2, 0, 2, 0, 0, 0, 2, 0, 2, 0, 0, 2, 0, 0, 0, 0, 2, 2, 2, 2, 0, 0, 2, 0, 2, 0, 0, 0, 0, 2, 2, 2, 2, 2, 2, 2, 0, 2, 0, 0, 2, 0, 0, 2, 2, 0, 0, 2, 2, 2])))
def lay3 : List Ent := ps lay2 (.inr (4, 1))
theorem lay1_len : lay1.length = 187 := by decide +kernel
theorem lay2_len : lay2.length = 217 := by decide +kernel
def m0 : Wm := zm (K_X12 (zm (K_X11 (zm mz 0)) 187) 187 188) 217
def entOK (r : Nat → Nat → Option Nat) (a : Nat) (e e' : Ent) : Bool := match e, e' with
  | .inl o, .inl o' => decide (o.1 = o'.1) && decide (o.2.length = o'.2.length) && (List.range o.2.length).all fun k => decide (o.2[k]? = o'.2[k]?) || (decide (o.2[k]? = some 2) && match o'.2[k]? with
    | some (t + 3) => decide (r a k = some t)
    | _ => false)
  | .inr q, .inr q' => decide (q = q')
  | _, _ => false
theorem entOK_eq {ad : Nat → Nat} {cA : Nat → ClassId} {m : Wm} {a : Nat} {e e' : Ent} (h : entOK m.2.2 a e e' = true) : cellE ad cA m a e = cellE ad cA m a e' := by
  unfold entOK at h
  split at h
  · rename_i o o'
    simp only [Bool.and_eq_true, decide_eq_true_eq] at h
    obtain ⟨⟨h1, h2⟩, h3⟩ := h
    show Sum.inr (o.1, fldVs ad m a o.2) = Sum.inr (o'.1, fldVs ad m a o'.2)
    rw [h1]
    congr 2
    apply List.ext_getElem?
    intro k
    by_cases hk : k < o.2.length
    · have h4 := List.all_eq_true.mp h3 k (List.mem_range.mpr hk)
      simp only [Bool.or_eq_true, Bool.and_eq_true, decide_eq_true_eq] at h4
      simp only [fldVs, List.getElem?_mapIdx]
      rcases h4 with h4 | ⟨h4, h5⟩
      · rw [h4]
      · rw [h4]
        split at h5
        · rename_i t ht
          rw [ht]
          have h6 : m.2.2 a k = some t := of_decide_eq_true h5
          show some (va_rf ((m.2.2 a k).map ad)) = some (Value.ref (ad t))
          rw [h6]
          rfl
        · cases h5
    · rw [List.getElem?_eq_none (by rw [fldVs_len]; omega), List.getElem?_eq_none (by rw [fldVs_len]; omega)]
  · have := of_decide_eq_true h
    rw [this]
  · cases h
def layOK (r : Nat → Nat → Option Nat) (l l' : List Ent) : Bool := decide (l.length = l'.length) && (List.range l.length).all fun a => match l[a]?, l'[a]? with
  | some e, some e' => entOK r a e e'
  | _, _ => false
theorem cells_lay {l l' : List Ent} {ad : Nat → Nat} {m : Wm} (h : layOK m.2.2 l l' = true) (cA : Nat → ClassId) : cellsOf l ad cA m = cellsOf l' ad cA m := by
  unfold layOK at h
  simp only [Bool.and_eq_true, decide_eq_true_eq] at h
  obtain ⟨h1, h2⟩ := h
  apply List.ext_getElem?
  intro a
  simp only [cellsOf, List.getElem?_mapIdx]
  by_cases ha : a < l.length
  · have h3 := List.all_eq_true.mp h2 a (List.mem_range.mpr ha)
    rw [List.getElem?_eq_getElem ha, List.getElem?_eq_getElem (h1 ▸ ha)] at h3 ⊢
    simp only [Option.map_some]
    rw [entOK_eq h3]
  · rw [List.getElem?_eq_none (by omega), List.getElem?_eq_none (by omega)]
set_option maxRecDepth 100000 in
theorem lay_ok : layOK m0.2.2 lay3 LAY = true := by decide +kernel
set_option maxRecDepth 100000 in
set_option maxHeartbeats 4000000 in
theorem law_start {bs d kc ks sb Ls : Nat} {xs : Nat → Int32} {Q : Option Value → Wm → Prop} (h : AWl LAY (adb bs) (EX (SX sb Ls xs) kc ks LAY) μL_law (d + 4) Q 23 [(0, .ref sb), (1, .ref (adb bs 0)), (2, .ref (adb bs 187)), (3, .ref (adb bs 217)), (4, .int 0)] [] m0) : AWl [] (adb bs) (EK (SX sb Ls xs) bs 0 (kc + 1 + 29 + 1 + 186 + 1) (ks + 1 + 28601 + 57 + 28692 + 19) LAY) μL_law (d + 4) Q 0 [(0, .ref sb)] [] mz := by
  refine aw_new (n := 0) (kc := kc + 1 + 29 + 1 + 186) (ks := ks + 1 + 28601 + 57 + 28692) (N := 19) dL_law_0 rfl nw_L_8 ?_
  refine aw_dup dL_law_3 rfl ?_
  refine aw_callI (n := 1) (kc := kc + 1 + 29 + 1) (ks := ks + 1 + 28601 + 57) (kc' := 186) (ks' := 28692) (lay1 := lay1) (m1 := K_X11 (zm mz 0)) (rest := [.ref (adb bs 0)]) [] dL_law_4 rfl (by omega) lay1_len ki_L_19 rfl (n_X11 (d := d) rfl rfl) (Nat.le_of_ble_eq_true rfl) ?_
  refine aw_astore_n (i := 1) (L' := [(1, .ref (adb bs 0)), (0, .ref sb)]) dL_law_7 rfl (by decide) rfl ?_
  refine aw_new (n := 187) (kc := kc + 1 + 29) (ks := ks + 1 + 28601) (N := 57) dL_law_8 lay1_len nw_L_20 ?_
  refine aw_dup dL_law_11 rfl ?_
  refine aw_callI (n := 188) (kc := kc + 1) (ks := ks + 1) (kc' := 29) (ks' := 28601) (lay1 := lay2) (m1 := K_X12 (zm (K_X11 (zm mz 0)) 187) 187 188) (rest := [.ref (adb bs 187)]) [] dL_law_12 (len_push lay1_len) (by omega) lay2_len ki_L_22 rfl (n_X12 (d := d + 2) (len_push lay1_len) (at_new lay1_len)) (Nat.le_of_ble_eq_true rfl) ?_
  refine aw_astore_n (i := 2) (L' := [(2, .ref (adb bs 187)), (1, .ref (adb bs 0)), (0, .ref sb)]) dL_law_15 rfl (by decide) rfl ?_
  refine aw_iconst (v := 1) dL_law_16 (by decide) ?_
  refine aw_newa4 (n := 217) (kc := kc) (ks := ks) (N := 1) dL_law_17 lay2_len ar_4 (by decide) (by decide) (by decide) ?_
  refine aw_astore_n (i := 3) (L' := [(3, .ref (adb bs 217)), (2, .ref (adb bs 187)), (1, .ref (adb bs 0)), (0, .ref sb)]) dL_law_19 rfl (by decide) rfl ?_
  refine aw_iconst (v := 0) dL_law_20 (by decide) ?_
  refine aw_istore (i := 4) (L' := [(4, .int 0), (3, .ref (adb bs 217)), (2, .ref (adb bs 187)), (1, .ref (adb bs 0)), (0, .ref sb)]) dL_law_21 (by decide) rfl ?_
  refine aw_lay (lay' := LAY) (fun cA => cells_lay lay_ok cA) ?_
  exact aw_sub [4, 3, 2, 1, 0] rfl h
theorem NW_in : ∀ q ∈ NW, Cond.methodLinkNest q.1 q.2.1 q.2.2.1 q.2.2.2 ∈ lw_tbl := by decide +kernel
theorem AO_0 : Cond.arrayOver (.object RX0) ∈ lw_tbl := List.mem_of_getElem? (i := 315) (by decide +kernel)
theorem AO_8 : Cond.arrayOver (.object RX8) ∈ lw_tbl := List.mem_of_getElem? (i := 301) (by decide +kernel)
theorem ls_U : Cond.laysStatic Bundle.tN "UNASSIGNED_STACK" Bundle.steD ∈ lw_tbl := List.mem_of_getElem? (i := 1213) (by decide +kernel)
theorem ls_S : Cond.laysStatic Bundle.tN "SUPPRESSED_SENTINEL" Bundle.listD ∈ lw_tbl := List.mem_of_getElem? (i := 1215) (by decide +kernel)
theorem ini_T : Cond.initialized Bundle.tN ∈ lw_tbl := by decide +kernel
theorem arr_known {s : State} {args : Array Value} {ty : FieldType} (hp : ∀ C, ty ≠ .object C) (h : (Cond.arrayClass ty).before args s = true) : ∃ c, ArrOfT s c ty ∧ va_RA s c ty := by
  obtain ⟨c, k, comp, h1, h2, h3⟩ := Cond.arrayClass_spec h
  refine ⟨c, fun N z => ⟨(fun k h => by cases h), k, h2, comp, h3⟩, ?_⟩
  unfold va_RA
  split
  · rename_i C
    exact absurd rfl (hp C)
  · exact h1
theorem arr_knownO {s : State} {args : Array Value} {C : String} (h : (Cond.arrayOver (.object C)).before args s = true) : ∃ c, ArrOfT s c (.object C) ∧ va_RA s c (.object C) := by
  obtain ⟨comp, c, k, h1, h2, h3, h4, h5⟩ := Cond.arrayOver_spec h
  exact ⟨c, fun N z => ⟨(fun k h => by cases h), k, h3, comp, h4⟩, k, comp, h3, h4, h1, h5⟩

theorem known0 {s : State} {args : Array Value} (hts : ∀ w ∈ lw_tbl, w.before args s = true) : ∃ (G : va_G) (cA : Nat → ClassId), va_K G vwCl (tysOf cA) s := by
  have hw : ∀ w ∈ TW, w.before args s = true := fun w h => hts w (TW_sub h)
  obtain ⟨c0, i0, k0⟩ := u_known (C := RX0) (T := TX0) hw nw_X11_47.1 (hw _ nw_X11_47.2.2.2.1)
  obtain ⟨c1, i1, k1⟩ := u_known (C := RX1) (T := TX1) hw nw_X11_16.1 (hw _ nw_X11_16.2.2.2.1)
  obtain ⟨c2, i2, k2⟩ := u_known (C := RX2) (T := TX2) hw nw_X11_40.1 (hw _ nw_X11_40.2.2.2.1)
  obtain ⟨c3, i3, k3⟩ := u_known (C := RX3) (T := TX3) hw nw_X11_53.1 (hw _ nw_X11_53.2.2.2.1)
  obtain ⟨c4, i4, k4⟩ := u_known (C := RX4) (T := TX4) hw nw_X11_23.1 (hw _ nw_X11_23.2.2.2.1)
  obtain ⟨c5, i5, k5⟩ := u_known (C := RX5) (T := TX5) hw nw_X1_15.1 (hw _ nw_X1_15.2.2.2.1)
  obtain ⟨c6, i6, k6⟩ := u_known (C := RX6) (T := TX6) hw nw_X11_93.1 (hw _ nw_X11_93.2.2.2.1)
  obtain ⟨c7, i7, k7⟩ := u_known (C := RX7) (T := TX7) hw nw_X11_102.1 (hw _ nw_X11_102.2.2.2.1)
  obtain ⟨c8, i8, k8⟩ := u_known (C := RX8) (T := TX8) hw nw_X4_9.1 (hw _ nw_X4_9.2.2.2.1)
  obtain ⟨c9, i9, k9⟩ := u_known (C := RX9) (T := TX9) hw nw_X11_90.1 (hw _ nw_X11_90.2.2.2.1)
  obtain ⟨c10, i10, k10⟩ := u_known (C := RX10) (T := TX10) hw nw_X11_9.1 (hw _ nw_X11_9.2.2.2.1)
  obtain ⟨c11, i11, k11⟩ := u_known (C := RX11) (T := TX11) hw nw_L_8.1 (hw _ nw_L_8.2.2.2.1)
  obtain ⟨c12, i12, k12⟩ := u_known (C := RX12) (T := TX12) hw nw_L_20.1 (hw _ nw_L_20.2.2.2.1)
  obtain ⟨t0, a0⟩ := arr_known (ty := .int) (fun C h => by cases h) (hw _ ar_0)
  obtain ⟨t1, a1⟩ := arr_known (ty := .byte) (fun C h => by cases h) (hw _ ar_1)
  obtain ⟨t2, a2⟩ := arr_known (ty := .char) (fun C h => by cases h) (hw _ ar_2)
  obtain ⟨t3, a3⟩ := arr_known (ty := .boolean) (fun C h => by cases h) (hw _ ar_3)
  obtain ⟨t4, a4⟩ := arr_known (ty := .long) (fun C h => by cases h) (hw _ ar_4)
  obtain ⟨t5, a5⟩ := arr_knownO (hts _ AO_0)
  obtain ⟨t6, a6⟩ := arr_knownO (hts _ AO_8)
  refine ⟨(fun k => [c0, c1, c2, c3, c4, c5, c6, c7, c8, c9, c10, c11, c12].getD k c0, fun k => [i0, i1, i2, i3, i4, i5, i6, i7, i8, i9, i10, i11, i12].getD k i0), fun k => [t0, t1, t2, t3, t4, t5, t6].getD k t0, fun c q hq => ?_, fun k q hq => ?_⟩
  · have hc : c < 13 := (List.getElem?_eq_some_iff.mp hq).1
    match c, hc, hq with
    | 0, _, hq => cases hq; exact k0
    | 1, _, hq => cases hq; exact k1
    | 2, _, hq => cases hq; exact k2
    | 3, _, hq => cases hq; exact k3
    | 4, _, hq => cases hq; exact k4
    | 5, _, hq => cases hq; exact k5
    | 6, _, hq => cases hq; exact k6
    | 7, _, hq => cases hq; exact k7
    | 8, _, hq => cases hq; exact k8
    | 9, _, hq => cases hq; exact k9
    | 10, _, hq => cases hq; exact k10
    | 11, _, hq => cases hq; exact k11
    | 12, _, hq => cases hq; exact k12
  · have hc : k < 7 := (List.getElem?_eq_some_iff.mp hq).1
    match k, hc, hq with
    | 0, _, hq => cases hq; exact a0
    | 1, _, hq => cases hq; exact a1
    | 2, _, hq => cases hq; exact a2
    | 3, _, hq => cases hq; exact a3
    | 4, _, hq => cases hq; exact a4
    | 5, _, hq => cases hq; exact a5
    | 6, _, hq => cases hq; exact a6

theorem pro_start {p : Program} {l : Launch} {e : Env} {R : Room} {s : State} {m : MethodId} {below : List Frame} {meth : Method} {c : Code} {b Ls : Nat} {xs : Nat → Int32} {Qz : State → Prop} {kc ks d : Nat} (hx : p.tables.exec = Jvm.exec) (hb : c.code = code) (hml : c.maxLocals = 8) (hown : s.vm.findClass RL = some m.cls) (hts : ∀ w ∈ lw_tbl, w.before #[Value.ref b] s = true) (hX : va_X b Ls xs s s.heap) (hbl : b < s.heap.size) (hl0 : l.stackTraces = false)
    (hU : (Cond.isRef (.static Bundle.tN "UNASSIGNED_STACK" Bundle.steD)).before #[Value.ref b] s = true) (hN : (Cond.isRef (.static Bundle.tN "SUPPRESSED_SENTINEL" Bundle.listD)).before #[Value.ref b] s = true) (hr : d + 4 ≤ R.frames ∧ 41 * (d + 4) ≤ R.locals ∧ kc + 1 + 29 + 1 + 186 + 1 ≤ R.cells ∧ ks + 1 + 28601 + 57 + 28692 + 19 ≤ R.slots)
    (hret : ∀ (pc : Nat) (H : Heap) (ls : Array Slot) (locs : List Loc) (cs sl : Nat), decode code pc = .ok (.ireturn, 1) → (∀ q ∈ locs, s.heap.size ≤ q.base) → cs ≤ R.cells → sl ≤ R.slots → W p l e R s m #[Value.ref b] below meth c H locs cs sl Qz (F0 m pc ls [.int 1]))
    (h : ∀ bs, AWl LAY (adb bs) (EX (SX b Ls xs) kc ks LAY) μL_law (d + 4) (fun v _ => v = some (.int 1)) 23 [(0, .ref b), (1, .ref (adb bs 0)), (2, .ref (adb bs 187)), (3, .ref (adb bs 217)), (4, .int 0)] [] m0) : W p l e R s m #[Value.ref b] below meth c s.heap [] 0 0 Qz (entryFrame m ([Value.ref b] : List Value).toArray 8) := by
  obtain ⟨G, cA, hK⟩ := known0 hts
  have hA : ∀ a : Nat, a < s.heap.size → ¬ s.heap.size ≤ a := fun a h1 h2 => absurd h1 (Nat.not_lt.mpr h2)
  have hXT : XT s (fun q => s.heap.size ≤ q) := ⟨fun w hw => by
      have h1 := List.all_eq_true.mp XWs_ok w hw
      simp only [Bool.and_eq_true] at h1
      exact va_tabs h1.1 rfl (hts w (XWs_in w hw)), vx_Zqof (hts _ ls_U) (hts _ ini_T) hU hA, vx_Zqof (hts _ ls_S) (hts _ ini_T) hN hA⟩
  have hNW : NWs s := ⟨fun q hq => va_Nw.of rfl (hts _ (NW_in q hq)), va_AO.of (hts _ AO_0), va_AO.of (hts _ AO_8)⟩
  have h0 : AWl [] (adb s.heap.size) (EK (SX b Ls xs) s.heap.size 0 (kc + 1 + 29 + 1 + 186 + 1) (ks + 1 + 28601 + 57 + 28692 + 19) LAY) μL_law (d + 4) (fun v _ => v = some (.int 1)) 0 (lv_args 0 [.ref b]) [] mz := aw_eq (L' := [(0, .ref b)]) (law_start (h _)) rfl rfl rfl
  rw [lg_entry_eq]
  refine h0 p l e R s m _ below meth c s.heap [] 0 0 G cA (fun q => s.heap.size ≤ q) _ _ ⟨⟨hx, hb, hml, hown, fun w hw => hts w (TW_sub hw)⟩, hK, fun q hq => hq, ⟨⟨⟨rfl, fun q hq => hq⟩, hX, hbl, hA b hbl, hl0, hXT⟩, fun h => absurd h (by decide), hNW⟩, ⟨hr.1, hr.2.1, by show 0 + (kc + 1 + 29 + 1 + 186 + 1) ≤ R.cells; omega, by show 0 + (ks + 1 + 28601 + 57 + 28692 + 19) ≤ R.slots; omega⟩, ?_⟩ (fun k q hk => by simp [cellsOf] at hk) ⟨fun i j p q hp => by simp [cellsOf] at hp, fun k q hk => by simp [cellsOf] at hk⟩ va_S.rf (lv_entry [.ref b] (Nat.le_of_ble_eq_true rfl))
  intro v w H' locs' pc' ls' cs' sl' hrt hc1 hc2 hq hP' hD' hS'
  subst hq
  rcases hrt with ⟨h1, -, -⟩ | ⟨x, ty, h1, -, -, hd⟩ | ⟨x, h1, -, -⟩
  · cases h1
  · cases h1
    exact hret pc' H' ls' locs' cs' sl' hd hS'.2.2 hc1 hc2
  · cases h1
end
section
/-! THE LOOP OF THE LAW: from an invariant to the next by one call each -/
theorem Ctg.mono {ad : Nat → Nat} {μ : MI} {hh : List (Nat × Nat × Nat × Nat)} {d kc ks : Nat} {args : List Value} {m : Wm} {Q Q' : Option Value → Wm → Prop} (h : Ctg ad μ hh d kc ks args m Q) (hq : ∀ v m', Q v m' → Q' v m') : Ctg ad μ hh d kc ks args m Q' := by
  intro l G cA sz hl p e ha hc hk s mt args' below hf happ hP hK
  obtain ⟨t, o, h1, h2, h3, ⟨⟨v, m', e1, e2, e3⟩, e4⟩, h5⟩ := h l G cA sz hl p e ha hc hk s mt args' below hf happ hP hK
  exact ⟨t, o, h1, h2, h3, ⟨⟨v, m', e1, hq v m' e2, e3⟩, e4⟩, h5⟩
def OpI (ad : Nat → Nat) (d : Nat) (μ μ' : MI) (as : List Value) (I J : Wm → Prop) : Prop := ∀ m, I m → Ct ad μ (d + 300) (.ref (ad 0) :: as) m (fun r m1 => ∃ v : Int32, r = some (.int v) ∧ Ct ad μ' (d + 300) (.ref (ad 187) :: as) m1 (fun r m2 => r = some (.int v) ∧ J m2))
def OpOf (ad : Nat → Nat) (d : Nat) (a b : Int32) (I J : Wm → Prop) : Prop := ∀ m, I m → Ctg ad μL_of hL_of (d + 300) 1 6 [.ref (ad 0), .int a, .int b, .ref (ad 217)] m (fun r m1 => ∃ v : Int32, r = some (.int v) ∧ Ct ad μX12_of (d + 300) [.ref (ad 187), .int a, .int b] m1 (fun r m3 => ∃ w : Int32, r = some (.int w) ∧ m3.1 187 17 = v ∧ (v = 0 → m3.2.1 217 (0 : Int32).toNatClampNeg = w.toInt64) ∧ J m3))
def OpRow (ad : Nat → Nat) (d : Nat) (a : Int32) (I J : Wm → Prop) : Prop := ∀ m, I m → Ctg ad μL_row hL_row (d + 300) 1 6 [.ref (ad 0), .int a, .ref (ad 217)] m (fun r m1 => ∃ v : Int32, r = some (.int v) ∧ Ct ad μX12_row (d + 300) [.ref (ad 187), .int a] m1 (fun r m3 => ∃ w : Int64, r = some (.long w) ∧ m3.1 187 17 = v ∧ (v = 0 → m3.2.1 217 (0 : Int32).toNatClampNeg = w) ∧ J m3))
/-- both sides are called, no answers are compared -/
def OpW (ad : Nat → Nat) (d : Nat) (μ μ' : MI) (as : List Value) (I J : Wm → Prop) : Prop := ∀ m, I m → Ct ad μ (d + 300) (.ref (ad 0) :: as) m (fun r m1 => (∃ v : Int32, r = some (.int v)) ∧ Ct ad μ' (d + 300) (.ref (ad 187) :: as) m1 (fun r m2 => (∃ w : Int32, r = some (.int w)) ∧ J m2))
def OpOfW (ad : Nat → Nat) (d : Nat) (a b : Int32) (I J : Wm → Prop) : Prop := ∀ m, I m → Ctg ad μL_of hL_of (d + 300) 1 6 [.ref (ad 0), .int a, .int b, .ref (ad 217)] m (fun r m1 => (∃ v : Int32, r = some (.int v)) ∧ Ct ad μX12_of (d + 300) [.ref (ad 187), .int a, .int b] m1 (fun r m3 => (∃ w : Int32, r = some (.int w)) ∧ J m3))
def OpRowW (ad : Nat → Nat) (d : Nat) (a : Int32) (I J : Wm → Prop) : Prop := ∀ m, I m → Ctg ad μL_row hL_row (d + 300) 1 6 [.ref (ad 0), .int a, .ref (ad 217)] m (fun r m1 => (∃ v : Int32, r = some (.int v)) ∧ Ct ad μX12_row (d + 300) [.ref (ad 187), .int a] m1 (fun r m3 => (∃ w : Int64, r = some (.long w)) ∧ J m3))
def O_sign (ad : Nat → Nat) (d : Nat) (I J : Wm → Prop) : Prop := ∀ a : Int32, OpW ad d μX11_sign μX12_sign [.int a] I J
set_option maxHeartbeats 1000000 in
theorem L_sign {ad : Nat → Nat} {sb Ls kc ks d : Nat} {xs : Nat → Int32} {Q : Option Value → Wm → Prop} {m : Wm} {x4 : Int32} {I J : Wm → Prop} (hv1 : vp_in (x4 + (1 : Int32)) Ls) (ho : O_sign ad d I J) (hI : I m) (K : ∀ m', J m' → AWl LAY ad (EX (SX sb Ls xs) kc ks LAY) μL_law (d + 301) Q 23 [(0, .ref sb), (1, .ref (ad 0)), (2, .ref (ad 187)), (3, .ref (ad 217)), (4, .int (x4 + (6 : Int32)))] [] m') : AWl LAY ad (EX (SX sb Ls xs) (kc + 1) (ks + 6) LAY) μL_law (d + 301) Q 232 [(0, .ref sb), (1, .ref (ad 0)), (2, .ref (ad 187)), (3, .ref (ad 217)), (4, .int x4)] [] m := g_L_law_232 ⟨hv1, (ho _ m hI).to (fun r m1 h => by
    obtain ⟨⟨v, rfl⟩, h2⟩ := h
    exact ⟨v, rfl, hv1, h2.to (fun r m3 h => by obtain ⟨⟨w, rfl⟩, hJ⟩ := h; exact ⟨w, rfl, K m3 hJ⟩)⟩)⟩
def O_end (ad : Nat → Nat) (d : Nat) (I J : Wm → Prop) : Prop := ∀ a : Int32, OpW ad d μX11_end μX12_end [.int a] I J
set_option maxHeartbeats 1000000 in
theorem L_end {ad : Nat → Nat} {sb Ls kc ks d : Nat} {xs : Nat → Int32} {Q : Option Value → Wm → Prop} {m : Wm} {x4 : Int32} {I J : Wm → Prop} (hv1 : vp_in (x4 + (1 : Int32)) Ls) (ho : O_end ad d I J) (hI : I m) (K : ∀ m', J m' → AWl LAY ad (EX (SX sb Ls xs) kc ks LAY) μL_law (d + 301) Q 23 [(0, .ref sb), (1, .ref (ad 0)), (2, .ref (ad 187)), (3, .ref (ad 217)), (4, .int (x4 + (6 : Int32)))] [] m') : AWl LAY ad (EX (SX sb Ls xs) (kc + 1) (ks + 6) LAY) μL_law (d + 301) Q 257 [(0, .ref sb), (1, .ref (ad 0)), (2, .ref (ad 187)), (3, .ref (ad 217)), (4, .int x4)] [] m := g_L_law_257 ⟨hv1, (ho _ m hI).to (fun r m1 h => by
    obtain ⟨⟨v, rfl⟩, h2⟩ := h
    exact ⟨v, rfl, hv1, h2.to (fun r m3 h => by obtain ⟨⟨w, rfl⟩, hJ⟩ := h; exact ⟨w, rfl, K m3 hJ⟩)⟩)⟩
def O_league (ad : Nat → Nat) (d : Nat) (I J : Wm → Prop) : Prop := OpW ad d μX11_league μX12_league [] I J
set_option maxHeartbeats 1000000 in
theorem L_league {ad : Nat → Nat} {sb Ls kc ks d : Nat} {xs : Nat → Int32} {Q : Option Value → Wm → Prop} {m : Wm} {x4 : Int32} {I J : Wm → Prop}  (ho : O_league ad d I J) (hI : I m) (K : ∀ m', J m' → AWl LAY ad (EX (SX sb Ls xs) kc ks LAY) μL_law (d + 301) Q 23 [(0, .ref sb), (1, .ref (ad 0)), (2, .ref (ad 187)), (3, .ref (ad 217)), (4, .int (x4 + (6 : Int32)))] [] m') : AWl LAY ad (EX (SX sb Ls xs) (kc + 1) (ks + 6) LAY) μL_law (d + 301) Q 282 [(0, .ref sb), (1, .ref (ad 0)), (2, .ref (ad 187)), (3, .ref (ad 217)), (4, .int x4)] [] m := g_L_law_282 ((ho  m hI).to (fun r m1 h => by
    obtain ⟨⟨v, rfl⟩, h2⟩ := h
    exact ⟨v, rfl, h2.to (fun r m3 h => by obtain ⟨⟨w, rfl⟩, hJ⟩ := h; exact ⟨w, rfl, K m3 hJ⟩)⟩))
def O_rule (ad : Nat → Nat) (d : Nat) (I J : Wm → Prop) : Prop := OpW ad d μX11_rule μX12_rule [] I J
set_option maxHeartbeats 1000000 in
theorem L_rule {ad : Nat → Nat} {sb Ls kc ks d : Nat} {xs : Nat → Int32} {Q : Option Value → Wm → Prop} {m : Wm} {x4 : Int32} {I J : Wm → Prop}  (ho : O_rule ad d I J) (hI : I m) (K : ∀ m', J m' → AWl LAY ad (EX (SX sb Ls xs) kc ks LAY) μL_law (d + 301) Q 23 [(0, .ref sb), (1, .ref (ad 0)), (2, .ref (ad 187)), (3, .ref (ad 217)), (4, .int (x4 + (6 : Int32)))] [] m') : AWl LAY ad (EX (SX sb Ls xs) (kc + 1) (ks + 6) LAY) μL_law (d + 301) Q 295 [(0, .ref sb), (1, .ref (ad 0)), (2, .ref (ad 187)), (3, .ref (ad 217)), (4, .int x4)] [] m := g_L_law_295 ((ho  m hI).to (fun r m1 h => by
    obtain ⟨⟨v, rfl⟩, h2⟩ := h
    exact ⟨v, rfl, h2.to (fun r m3 h => by obtain ⟨⟨w, rfl⟩, hJ⟩ := h; exact ⟨w, rfl, K m3 hJ⟩)⟩))
def O_plan (ad : Nat → Nat) (d : Nat) (I J : Wm → Prop) : Prop := OpW ad d μX11_plan μX12_plan [] I J
set_option maxHeartbeats 1000000 in
theorem L_plan {ad : Nat → Nat} {sb Ls kc ks d : Nat} {xs : Nat → Int32} {Q : Option Value → Wm → Prop} {m : Wm} {x4 : Int32} {I J : Wm → Prop}  (ho : O_plan ad d I J) (hI : I m) (K : ∀ m', J m' → AWl LAY ad (EX (SX sb Ls xs) kc ks LAY) μL_law (d + 301) Q 23 [(0, .ref sb), (1, .ref (ad 0)), (2, .ref (ad 187)), (3, .ref (ad 217)), (4, .int (x4 + (6 : Int32)))] [] m') : AWl LAY ad (EX (SX sb Ls xs) (kc + 1) (ks + 6) LAY) μL_law (d + 301) Q 308 [(0, .ref sb), (1, .ref (ad 0)), (2, .ref (ad 187)), (3, .ref (ad 217)), (4, .int x4)] [] m := g_L_law_308 ((ho  m hI).to (fun r m1 h => by
    obtain ⟨⟨v, rfl⟩, h2⟩ := h
    exact ⟨v, rfl, h2.to (fun r m3 h => by obtain ⟨⟨w, rfl⟩, hJ⟩ := h; exact ⟨w, rfl, K m3 hJ⟩)⟩))
def O_skill (ad : Nat → Nat) (d : Nat) (I J : Wm → Prop) : Prop := ∀ a b : Int32, OpW ad d μX11_skill μX12_skill [.int a, .int b] I J
set_option maxHeartbeats 1000000 in
theorem L_skill {ad : Nat → Nat} {sb Ls kc ks d : Nat} {xs : Nat → Int32} {Q : Option Value → Wm → Prop} {m : Wm} {x4 : Int32} {I J : Wm → Prop} (hv1 : vp_in (x4 + (1 : Int32)) Ls) (hv2 : vp_in (x4 + (2 : Int32)) Ls) (ho : O_skill ad d I J) (hI : I m) (K : ∀ m', J m' → AWl LAY ad (EX (SX sb Ls xs) kc ks LAY) μL_law (d + 301) Q 23 [(0, .ref sb), (1, .ref (ad 0)), (2, .ref (ad 187)), (3, .ref (ad 217)), (4, .int (x4 + (6 : Int32)))] [] m') : AWl LAY ad (EX (SX sb Ls xs) (kc + 1) (ks + 6) LAY) μL_law (d + 301) Q 321 [(0, .ref sb), (1, .ref (ad 0)), (2, .ref (ad 187)), (3, .ref (ad 217)), (4, .int x4)] [] m := g_L_law_321 ⟨hv1, hv2, (ho _ _ m hI).to (fun r m1 h => by
    obtain ⟨⟨v, rfl⟩, h2⟩ := h
    exact ⟨v, rfl, hv1, hv2, h2.to (fun r m3 h => by obtain ⟨⟨w, rfl⟩, hJ⟩ := h; exact ⟨w, rfl, K m3 hJ⟩)⟩)⟩
def O_of (ad : Nat → Nat) (d : Nat) (I J : Wm → Prop) : Prop := ∀ a b : Int32, OpOf ad d a b I J
set_option maxHeartbeats 1000000 in
theorem L_of {ad : Nat → Nat} {sb Ls kc ks d : Nat} {xs : Nat → Int32} {Q : Option Value → Wm → Prop} {m : Wm} {x4 : Int32} {I J : Wm → Prop} (hv1 : vp_in (x4 + (1 : Int32)) Ls) (hv2 : vp_in (x4 + (2 : Int32)) Ls) (ho : O_of ad d I J) (hI : I m) (K : ∀ m', J m' → AWl LAY ad (EX (SX sb Ls xs) kc ks LAY) μL_law (d + 301) Q 23 [(0, .ref sb), (1, .ref (ad 0)), (2, .ref (ad 187)), (3, .ref (ad 217)), (4, .int (x4 + (6 : Int32)))] [] m') : AWl LAY ad (EX (SX sb Ls xs) (kc + 1) (ks + 6) LAY) μL_law (d + 301) Q 358 [(0, .ref sb), (1, .ref (ad 0)), (2, .ref (ad 187)), (3, .ref (ad 217)), (4, .int x4)] [] m := g_L_law_358 ⟨hv1, hv2, Ctg.mono (ho _ _ m hI) (fun r m1 h => by
    obtain ⟨v, rfl, h2⟩ := h
    refine ⟨v, rfl, hv1, hv2, h2.to (fun r m3 h => ?_)⟩
    obtain ⟨w, rfl, h3, h4, hJ⟩ := h
    refine ⟨w, rfl, v_X12_thrown ⟨_, rfl, fun _ => ⟨fun _ => K m3 hJ, fun hv => ⟨fun _ => K m3 hJ, fun hc => absurd ((lg_cmp_eq _ _).mpr (h4 hv)) hc⟩⟩, fun hc => absurd h3 hc⟩⟩)⟩
def O_law (ad : Nat → Nat) (d : Nat) (I J : Wm → Prop) : Prop := ∀ a b : Int32, OpW ad d μX11_law μX12_law [.int a, .int b] I J
set_option maxHeartbeats 1000000 in
theorem L_law {ad : Nat → Nat} {sb Ls kc ks d : Nat} {xs : Nat → Int32} {Q : Option Value → Wm → Prop} {m : Wm} {x4 : Int32} {I J : Wm → Prop} (hv1 : vp_in (x4 + (1 : Int32)) Ls) (hv2 : vp_in (x4 + (2 : Int32)) Ls) (ho : O_law ad d I J) (hI : I m) (K : ∀ m', J m' → AWl LAY ad (EX (SX sb Ls xs) kc ks LAY) μL_law (d + 301) Q 23 [(0, .ref sb), (1, .ref (ad 0)), (2, .ref (ad 187)), (3, .ref (ad 217)), (4, .int (x4 + (6 : Int32)))] [] m') : AWl LAY ad (EX (SX sb Ls xs) (kc + 1) (ks + 6) LAY) μL_law (d + 301) Q 426 [(0, .ref sb), (1, .ref (ad 0)), (2, .ref (ad 187)), (3, .ref (ad 217)), (4, .int x4)] [] m := g_L_law_426 ⟨hv1, hv2, (ho _ _ m hI).to (fun r m1 h => by
    obtain ⟨⟨v, rfl⟩, h2⟩ := h
    exact ⟨v, rfl, hv1, hv2, h2.to (fun r m3 h => by obtain ⟨⟨w, rfl⟩, hJ⟩ := h; exact ⟨w, rfl, K m3 hJ⟩)⟩)⟩
def O_sheet (ad : Nat → Nat) (d : Nat) (I J : Wm → Prop) : Prop := ∀ a b c e f : Int32, OpW ad d μX11_sheet μX12_sheet [.int a, .int b, .int c, .int e, .int f] I J
set_option maxHeartbeats 1000000 in
theorem L_sheet {ad : Nat → Nat} {sb Ls kc ks d : Nat} {xs : Nat → Int32} {Q : Option Value → Wm → Prop} {m : Wm} {x4 : Int32} {I J : Wm → Prop} (hv1 : vp_in (x4 + (1 : Int32)) Ls) (hv2 : vp_in (x4 + (2 : Int32)) Ls) (hv3 : vp_in (x4 + (3 : Int32)) Ls) (hv4 : vp_in (x4 + (4 : Int32)) Ls) (hv5 : vp_in (x4 + (5 : Int32)) Ls) (ho : O_sheet ad d I J) (hI : I m) (K : ∀ m', J m' → AWl LAY ad (EX (SX sb Ls xs) kc ks LAY) μL_law (d + 301) Q 23 [(0, .ref sb), (1, .ref (ad 0)), (2, .ref (ad 187)), (3, .ref (ad 217)), (4, .int (x4 + (6 : Int32)))] [] m') : AWl LAY ad (EX (SX sb Ls xs) (kc + 1) (ks + 6) LAY) μL_law (d + 301) Q 463 [(0, .ref sb), (1, .ref (ad 0)), (2, .ref (ad 187)), (3, .ref (ad 217)), (4, .int x4)] [] m := g_L_law_463 ⟨hv1, hv2, hv3, hv4, hv5, (ho _ _ _ _ _ m hI).to (fun r m1 h => by
    obtain ⟨⟨v, rfl⟩, h2⟩ := h
    exact ⟨v, rfl, hv1, hv2, hv3, hv4, hv5, h2.to (fun r m3 h => by obtain ⟨⟨w, rfl⟩, hJ⟩ := h; exact ⟨w, rfl, K m3 hJ⟩)⟩)⟩
def O_ill (ad : Nat → Nat) (d : Nat) (I J : Wm → Prop) : Prop := ∀ a b : Int32, b = 0 ∨ b = 1 → OpW ad d μX11_ill μX12_ill [.int a, .int b] I J
set_option maxHeartbeats 1000000 in
theorem L_ill {ad : Nat → Nat} {sb Ls kc ks d : Nat} {xs : Nat → Int32} {Q : Option Value → Wm → Prop} {m : Wm} {x4 : Int32} {I J : Wm → Prop} (hv1 : vp_in (x4 + (1 : Int32)) Ls) (hv2 : vp_in (x4 + (2 : Int32)) Ls) (ho : O_ill ad d I J) (hI : I m) (K : ∀ m', J m' → AWl LAY ad (EX (SX sb Ls xs) kc ks LAY) μL_law (d + 301) Q 23 [(0, .ref sb), (1, .ref (ad 0)), (2, .ref (ad 187)), (3, .ref (ad 217)), (4, .int (x4 + (6 : Int32)))] [] m') : AWl LAY ad (EX (SX sb Ls xs) (kc + 1) (ks + 6) LAY) μL_law (d + 301) Q 536 [(0, .ref sb), (1, .ref (ad 0)), (2, .ref (ad 187)), (3, .ref (ad 217)), (4, .int x4)] [] m := g_L_law_536 ⟨hv1, hv2, fun hz => (ho _ 0 (Or.inl rfl) m hI).to (fun r m1 h => by
    obtain ⟨⟨v, rfl⟩, h2⟩ := h
    exact ⟨v, rfl, hv1, hv2, fun _ => h2.to (fun r m3 h => by obtain ⟨⟨w, rfl⟩, hJ⟩ := h; exact ⟨w, rfl, K m3 hJ⟩), fun hn => absurd hz hn⟩), fun hz => (ho _ 1 (Or.inr rfl) m hI).to (fun r m1 h => by
    obtain ⟨⟨v, rfl⟩, h2⟩ := h
    exact ⟨v, rfl, hv1, hv2, fun hn => absurd hn hz, fun _ => h2.to (fun r m3 h => by obtain ⟨⟨w, rfl⟩, hJ⟩ := h; exact ⟨w, rfl, K m3 hJ⟩)⟩)⟩
def O_swap (ad : Nat → Nat) (d : Nat) (I J : Wm → Prop) : Prop := ∀ a b : Int32, OpW ad d μX11_swap μX12_swap [.int a, .int b] I J
set_option maxHeartbeats 1000000 in
theorem L_swap {ad : Nat → Nat} {sb Ls kc ks d : Nat} {xs : Nat → Int32} {Q : Option Value → Wm → Prop} {m : Wm} {x4 : Int32} {I J : Wm → Prop} (hv1 : vp_in (x4 + (1 : Int32)) Ls) (hv2 : vp_in (x4 + (2 : Int32)) Ls) (ho : O_swap ad d I J) (hI : I m) (K : ∀ m', J m' → AWl LAY ad (EX (SX sb Ls xs) kc ks LAY) μL_law (d + 301) Q 23 [(0, .ref sb), (1, .ref (ad 0)), (2, .ref (ad 187)), (3, .ref (ad 217)), (4, .int (x4 + (6 : Int32)))] [] m') : AWl LAY ad (EX (SX sb Ls xs) (kc + 1) (ks + 6) LAY) μL_law (d + 301) Q 589 [(0, .ref sb), (1, .ref (ad 0)), (2, .ref (ad 187)), (3, .ref (ad 217)), (4, .int x4)] [] m := g_L_law_589 ⟨hv1, hv2, (ho _ _ m hI).to (fun r m1 h => by
    obtain ⟨⟨v, rfl⟩, h2⟩ := h
    exact ⟨v, rfl, hv1, hv2, h2.to (fun r m3 h => by obtain ⟨⟨w, rfl⟩, hJ⟩ := h; exact ⟨w, rfl, K m3 hJ⟩)⟩)⟩
def O_circle (ad : Nat → Nat) (d : Nat) (I J : Wm → Prop) : Prop := OpW ad d μX11_circle μX12_circle [] I J
set_option maxHeartbeats 1000000 in
theorem L_circle {ad : Nat → Nat} {sb Ls kc ks d : Nat} {xs : Nat → Int32} {Q : Option Value → Wm → Prop} {m : Wm} {x4 : Int32} {I J : Wm → Prop}  (ho : O_circle ad d I J) (hI : I m) (K : ∀ m', J m' → AWl LAY ad (EX (SX sb Ls xs) kc ks LAY) μL_law (d + 301) Q 23 [(0, .ref sb), (1, .ref (ad 0)), (2, .ref (ad 187)), (3, .ref (ad 217)), (4, .int (x4 + (6 : Int32)))] [] m') : AWl LAY ad (EX (SX sb Ls xs) (kc + 1) (ks + 6) LAY) μL_law (d + 301) Q 626 [(0, .ref sb), (1, .ref (ad 0)), (2, .ref (ad 187)), (3, .ref (ad 217)), (4, .int x4)] [] m := g_L_law_626 ((ho  m hI).to (fun r m1 h => by
    obtain ⟨⟨v, rfl⟩, h2⟩ := h
    exact ⟨v, rfl, h2.to (fun r m3 h => by obtain ⟨⟨w, rfl⟩, hJ⟩ := h; exact ⟨w, rfl, K m3 hJ⟩)⟩))
def O_game (ad : Nat → Nat) (d : Nat) (I J : Wm → Prop) : Prop := ∀ a b c : Int32, OpW ad d μX11_game μX12_game [.int a, .int b, .int c] I J
set_option maxHeartbeats 1000000 in
theorem L_game {ad : Nat → Nat} {sb Ls kc ks d : Nat} {xs : Nat → Int32} {Q : Option Value → Wm → Prop} {m : Wm} {x4 : Int32} {I J : Wm → Prop} (hv1 : vp_in (x4 + (1 : Int32)) Ls) (hv2 : vp_in (x4 + (2 : Int32)) Ls) (hv3 : vp_in (x4 + (3 : Int32)) Ls) (ho : O_game ad d I J) (hI : I m) (K : ∀ m', J m' → AWl LAY ad (EX (SX sb Ls xs) kc ks LAY) μL_law (d + 301) Q 23 [(0, .ref sb), (1, .ref (ad 0)), (2, .ref (ad 187)), (3, .ref (ad 217)), (4, .int (x4 + (6 : Int32)))] [] m') : AWl LAY ad (EX (SX sb Ls xs) (kc + 1) (ks + 6) LAY) μL_law (d + 301) Q 639 [(0, .ref sb), (1, .ref (ad 0)), (2, .ref (ad 187)), (3, .ref (ad 217)), (4, .int x4)] [] m := g_L_law_639 ⟨hv1, hv2, hv3, (ho _ _ _ m hI).to (fun r m1 h => by
    obtain ⟨⟨v, rfl⟩, h2⟩ := h
    exact ⟨v, rfl, hv1, hv2, hv3, h2.to (fun r m3 h => by obtain ⟨⟨w, rfl⟩, hJ⟩ := h; exact ⟨w, rfl, K m3 hJ⟩)⟩)⟩
def O_odds (ad : Nat → Nat) (d : Nat) (I J : Wm → Prop) : Prop := ∀ a b : Int32, OpW ad d μX11_odds μX12_odds [.int a, .int b] I J
set_option maxHeartbeats 1000000 in
theorem L_odds {ad : Nat → Nat} {sb Ls kc ks d : Nat} {xs : Nat → Int32} {Q : Option Value → Wm → Prop} {m : Wm} {x4 : Int32} {I J : Wm → Prop} (hv1 : vp_in (x4 + (1 : Int32)) Ls) (hv2 : vp_in (x4 + (2 : Int32)) Ls) (ho : O_odds ad d I J) (hI : I m) (K : ∀ m', J m' → AWl LAY ad (EX (SX sb Ls xs) kc ks LAY) μL_law (d + 301) Q 23 [(0, .ref sb), (1, .ref (ad 0)), (2, .ref (ad 187)), (3, .ref (ad 217)), (4, .int (x4 + (6 : Int32)))] [] m') : AWl LAY ad (EX (SX sb Ls xs) (kc + 1) (ks + 6) LAY) μL_law (d + 301) Q 688 [(0, .ref sb), (1, .ref (ad 0)), (2, .ref (ad 187)), (3, .ref (ad 217)), (4, .int x4)] [] m := g_L_law_688 ⟨hv1, hv2, (ho _ _ m hI).to (fun r m1 h => by
    obtain ⟨⟨v, rfl⟩, h2⟩ := h
    exact ⟨v, rfl, hv1, hv2, h2.to (fun r m3 h => by obtain ⟨⟨w, rfl⟩, hJ⟩ := h; exact ⟨w, rfl, K m3 hJ⟩)⟩)⟩
def O_play (ad : Nat → Nat) (d : Nat) (I J : Wm → Prop) : Prop := ∀ a b c : Int32, OpW ad d μX11_play μX12_play [.int a, .int b, .int c] I J
set_option maxHeartbeats 1000000 in
theorem L_play {ad : Nat → Nat} {sb Ls kc ks d : Nat} {xs : Nat → Int32} {Q : Option Value → Wm → Prop} {m : Wm} {x4 : Int32} {I J : Wm → Prop} (hv1 : vp_in (x4 + (1 : Int32)) Ls) (hv2 : vp_in (x4 + (2 : Int32)) Ls) (hv3 : vp_in (x4 + (3 : Int32)) Ls) (ho : O_play ad d I J) (hI : I m) (K : ∀ m', J m' → AWl LAY ad (EX (SX sb Ls xs) kc ks LAY) μL_law (d + 301) Q 23 [(0, .ref sb), (1, .ref (ad 0)), (2, .ref (ad 187)), (3, .ref (ad 217)), (4, .int (x4 + (6 : Int32)))] [] m') : AWl LAY ad (EX (SX sb Ls xs) (kc + 1) (ks + 6) LAY) μL_law (d + 301) Q 725 [(0, .ref sb), (1, .ref (ad 0)), (2, .ref (ad 187)), (3, .ref (ad 217)), (4, .int x4)] [] m := g_L_law_725 ⟨hv1, hv2, hv3, (ho _ _ _ m hI).to (fun r m1 h => by
    obtain ⟨⟨v, rfl⟩, h2⟩ := h
    exact ⟨v, rfl, hv1, hv2, hv3, h2.to (fun r m3 h => by obtain ⟨⟨w, rfl⟩, hJ⟩ := h; exact ⟨w, rfl, K m3 hJ⟩)⟩)⟩
def O_undo (ad : Nat → Nat) (d : Nat) (I J : Wm → Prop) : Prop := OpW ad d μX11_undo μX12_undo [] I J
set_option maxHeartbeats 1000000 in
theorem L_undo {ad : Nat → Nat} {sb Ls kc ks d : Nat} {xs : Nat → Int32} {Q : Option Value → Wm → Prop} {m : Wm} {x4 : Int32} {I J : Wm → Prop}  (ho : O_undo ad d I J) (hI : I m) (K : ∀ m', J m' → AWl LAY ad (EX (SX sb Ls xs) kc ks LAY) μL_law (d + 301) Q 23 [(0, .ref sb), (1, .ref (ad 0)), (2, .ref (ad 187)), (3, .ref (ad 217)), (4, .int (x4 + (6 : Int32)))] [] m') : AWl LAY ad (EX (SX sb Ls xs) (kc + 1) (ks + 6) LAY) μL_law (d + 301) Q 774 [(0, .ref sb), (1, .ref (ad 0)), (2, .ref (ad 187)), (3, .ref (ad 217)), (4, .int x4)] [] m := g_L_law_774 ((ho  m hI).to (fun r m1 h => by
    obtain ⟨⟨v, rfl⟩, h2⟩ := h
    exact ⟨v, rfl, h2.to (fun r m3 h => by obtain ⟨⟨w, rfl⟩, hJ⟩ := h; exact ⟨w, rfl, K m3 hJ⟩)⟩))
def O_judge (ad : Nat → Nat) (d : Nat) (I J : Wm → Prop) : Prop := ∀ a b : Int32, OpW ad d μX11_judge μX12_judge [.int a, .int b] I J
set_option maxHeartbeats 1000000 in
theorem L_judge {ad : Nat → Nat} {sb Ls kc ks d : Nat} {xs : Nat → Int32} {Q : Option Value → Wm → Prop} {m : Wm} {x4 : Int32} {I J : Wm → Prop} (hv1 : vp_in (x4 + (1 : Int32)) Ls) (hv2 : vp_in (x4 + (2 : Int32)) Ls) (ho : O_judge ad d I J) (hI : I m) (K : ∀ m', J m' → AWl LAY ad (EX (SX sb Ls xs) kc ks LAY) μL_law (d + 301) Q 23 [(0, .ref sb), (1, .ref (ad 0)), (2, .ref (ad 187)), (3, .ref (ad 217)), (4, .int (x4 + (6 : Int32)))] [] m') : AWl LAY ad (EX (SX sb Ls xs) (kc + 1) (ks + 6) LAY) μL_law (d + 301) Q 787 [(0, .ref sb), (1, .ref (ad 0)), (2, .ref (ad 187)), (3, .ref (ad 217)), (4, .int x4)] [] m := g_L_law_787 ⟨hv1, hv2, (ho _ _ m hI).to (fun r m1 h => by
    obtain ⟨⟨v, rfl⟩, h2⟩ := h
    exact ⟨v, rfl, hv1, hv2, h2.to (fun r m3 h => by obtain ⟨⟨w, rfl⟩, hJ⟩ := h; exact ⟨w, rfl, K m3 hJ⟩)⟩)⟩
def O_rounds (ad : Nat → Nat) (d : Nat) (I J : Wm → Prop) : Prop := ∀ a : Int32, OpW ad d μX11_rounds μX12_rounds [.int a] I J
set_option maxHeartbeats 1000000 in
theorem L_rounds {ad : Nat → Nat} {sb Ls kc ks d : Nat} {xs : Nat → Int32} {Q : Option Value → Wm → Prop} {m : Wm} {x4 : Int32} {I J : Wm → Prop} (hv1 : vp_in (x4 + (1 : Int32)) Ls) (ho : O_rounds ad d I J) (hI : I m) (K : ∀ m', J m' → AWl LAY ad (EX (SX sb Ls xs) kc ks LAY) μL_law (d + 301) Q 23 [(0, .ref sb), (1, .ref (ad 0)), (2, .ref (ad 187)), (3, .ref (ad 217)), (4, .int (x4 + (6 : Int32)))] [] m') : AWl LAY ad (EX (SX sb Ls xs) (kc + 1) (ks + 6) LAY) μL_law (d + 301) Q 824 [(0, .ref sb), (1, .ref (ad 0)), (2, .ref (ad 187)), (3, .ref (ad 217)), (4, .int x4)] [] m := g_L_law_824 ⟨hv1, (ho _ m hI).to (fun r m1 h => by
    obtain ⟨⟨v, rfl⟩, h2⟩ := h
    exact ⟨v, rfl, hv1, h2.to (fun r m3 h => by obtain ⟨⟨w, rfl⟩, hJ⟩ := h; exact ⟨w, rfl, K m3 hJ⟩)⟩)⟩
def O_beats (ad : Nat → Nat) (d : Nat) (I J : Wm → Prop) : Prop := ∀ a : Int32, OpW ad d μX11_beats μX12_beats [.int a] I J
set_option maxHeartbeats 1000000 in
theorem L_beats {ad : Nat → Nat} {sb Ls kc ks d : Nat} {xs : Nat → Int32} {Q : Option Value → Wm → Prop} {m : Wm} {x4 : Int32} {I J : Wm → Prop} (hv1 : vp_in (x4 + (1 : Int32)) Ls) (ho : O_beats ad d I J) (hI : I m) (K : ∀ m', J m' → AWl LAY ad (EX (SX sb Ls xs) kc ks LAY) μL_law (d + 301) Q 23 [(0, .ref sb), (1, .ref (ad 0)), (2, .ref (ad 187)), (3, .ref (ad 217)), (4, .int (x4 + (6 : Int32)))] [] m') : AWl LAY ad (EX (SX sb Ls xs) (kc + 1) (ks + 6) LAY) μL_law (d + 301) Q 849 [(0, .ref sb), (1, .ref (ad 0)), (2, .ref (ad 187)), (3, .ref (ad 217)), (4, .int x4)] [] m := g_L_law_849 ⟨hv1, (ho _ m hI).to (fun r m1 h => by
    obtain ⟨⟨v, rfl⟩, h2⟩ := h
    exact ⟨v, rfl, hv1, h2.to (fun r m3 h => by obtain ⟨⟨w, rfl⟩, hJ⟩ := h; exact ⟨w, rfl, K m3 hJ⟩)⟩)⟩
def O_kings (ad : Nat → Nat) (d : Nat) (I J : Wm → Prop) : Prop := OpW ad d μX11_kings μX12_kings [] I J
set_option maxHeartbeats 1000000 in
theorem L_kings {ad : Nat → Nat} {sb Ls kc ks d : Nat} {xs : Nat → Int32} {Q : Option Value → Wm → Prop} {m : Wm} {x4 : Int32} {I J : Wm → Prop}  (ho : O_kings ad d I J) (hI : I m) (K : ∀ m', J m' → AWl LAY ad (EX (SX sb Ls xs) kc ks LAY) μL_law (d + 301) Q 23 [(0, .ref sb), (1, .ref (ad 0)), (2, .ref (ad 187)), (3, .ref (ad 217)), (4, .int (x4 + (6 : Int32)))] [] m') : AWl LAY ad (EX (SX sb Ls xs) (kc + 1) (ks + 6) LAY) μL_law (d + 301) Q 874 [(0, .ref sb), (1, .ref (ad 0)), (2, .ref (ad 187)), (3, .ref (ad 217)), (4, .int x4)] [] m := g_L_law_874 ((ho  m hI).to (fun r m1 h => by
    obtain ⟨⟨v, rfl⟩, h2⟩ := h
    exact ⟨v, rfl, h2.to (fun r m3 h => by obtain ⟨⟨w, rfl⟩, hJ⟩ := h; exact ⟨w, rfl, K m3 hJ⟩)⟩))
def O_master (ad : Nat → Nat) (d : Nat) (I J : Wm → Prop) : Prop := ∀ a : Int32, OpW ad d μX11_master μX12_master [.int a] I J
set_option maxHeartbeats 1000000 in
theorem L_master {ad : Nat → Nat} {sb Ls kc ks d : Nat} {xs : Nat → Int32} {Q : Option Value → Wm → Prop} {m : Wm} {x4 : Int32} {I J : Wm → Prop} (hv1 : vp_in (x4 + (1 : Int32)) Ls) (ho : O_master ad d I J) (hI : I m) (K : ∀ m', J m' → AWl LAY ad (EX (SX sb Ls xs) kc ks LAY) μL_law (d + 301) Q 23 [(0, .ref sb), (1, .ref (ad 0)), (2, .ref (ad 187)), (3, .ref (ad 217)), (4, .int (x4 + (6 : Int32)))] [] m') : AWl LAY ad (EX (SX sb Ls xs) (kc + 1) (ks + 6) LAY) μL_law (d + 301) Q 887 [(0, .ref sb), (1, .ref (ad 0)), (2, .ref (ad 187)), (3, .ref (ad 217)), (4, .int x4)] [] m := g_L_law_887 ⟨hv1, (ho _ m hI).to (fun r m1 h => by
    obtain ⟨⟨v, rfl⟩, h2⟩ := h
    exact ⟨v, rfl, hv1, h2.to (fun r m3 h => by obtain ⟨⟨w, rfl⟩, hJ⟩ := h; exact ⟨w, rfl, K m3 hJ⟩)⟩)⟩
def O_table (ad : Nat → Nat) (d : Nat) (I J : Wm → Prop) : Prop := OpW ad d μX11_table μX12_table [] I J
set_option maxHeartbeats 1000000 in
theorem L_table {ad : Nat → Nat} {sb Ls kc ks d : Nat} {xs : Nat → Int32} {Q : Option Value → Wm → Prop} {m : Wm} {x4 : Int32} {I J : Wm → Prop}  (ho : O_table ad d I J) (hI : I m) (K : ∀ m', J m' → AWl LAY ad (EX (SX sb Ls xs) kc ks LAY) μL_law (d + 301) Q 23 [(0, .ref sb), (1, .ref (ad 0)), (2, .ref (ad 187)), (3, .ref (ad 217)), (4, .int (x4 + (6 : Int32)))] [] m') : AWl LAY ad (EX (SX sb Ls xs) (kc + 1) (ks + 6) LAY) μL_law (d + 301) Q 912 [(0, .ref sb), (1, .ref (ad 0)), (2, .ref (ad 187)), (3, .ref (ad 217)), (4, .int x4)] [] m := g_L_law_912 ((ho  m hI).to (fun r m1 h => by
    obtain ⟨⟨v, rfl⟩, h2⟩ := h
    exact ⟨v, rfl, h2.to (fun r m3 h => by obtain ⟨⟨w, rfl⟩, hJ⟩ := h; exact ⟨w, rfl, K m3 hJ⟩)⟩))
def O_spread (ad : Nat → Nat) (d : Nat) (I J : Wm → Prop) : Prop := OpW ad d μX11_spread μX12_spread [] I J
set_option maxHeartbeats 1000000 in
theorem L_spread {ad : Nat → Nat} {sb Ls kc ks d : Nat} {xs : Nat → Int32} {Q : Option Value → Wm → Prop} {m : Wm} {x4 : Int32} {I J : Wm → Prop}  (ho : O_spread ad d I J) (hI : I m) (K : ∀ m', J m' → AWl LAY ad (EX (SX sb Ls xs) kc ks LAY) μL_law (d + 301) Q 23 [(0, .ref sb), (1, .ref (ad 0)), (2, .ref (ad 187)), (3, .ref (ad 217)), (4, .int (x4 + (6 : Int32)))] [] m') : AWl LAY ad (EX (SX sb Ls xs) (kc + 1) (ks + 6) LAY) μL_law (d + 301) Q 925 [(0, .ref sb), (1, .ref (ad 0)), (2, .ref (ad 187)), (3, .ref (ad 217)), (4, .int x4)] [] m := g_L_law_925 ((ho  m hI).to (fun r m1 h => by
    obtain ⟨⟨v, rfl⟩, h2⟩ := h
    exact ⟨v, rfl, h2.to (fun r m3 h => by obtain ⟨⟨w, rfl⟩, hJ⟩ := h; exact ⟨w, rfl, K m3 hJ⟩)⟩))
def O_rest (ad : Nat → Nat) (d : Nat) (I J : Wm → Prop) : Prop := OpW ad d μX11_rest μX12_rest [] I J
set_option maxHeartbeats 1000000 in
theorem L_rest {ad : Nat → Nat} {sb Ls kc ks d : Nat} {xs : Nat → Int32} {Q : Option Value → Wm → Prop} {m : Wm} {x4 : Int32} {I J : Wm → Prop}  (ho : O_rest ad d I J) (hI : I m) (K : ∀ m', J m' → AWl LAY ad (EX (SX sb Ls xs) kc ks LAY) μL_law (d + 301) Q 23 [(0, .ref sb), (1, .ref (ad 0)), (2, .ref (ad 187)), (3, .ref (ad 217)), (4, .int (x4 + (6 : Int32)))] [] m') : AWl LAY ad (EX (SX sb Ls xs) (kc + 1) (ks + 6) LAY) μL_law (d + 301) Q 938 [(0, .ref sb), (1, .ref (ad 0)), (2, .ref (ad 187)), (3, .ref (ad 217)), (4, .int x4)] [] m := g_L_law_938 ((ho  m hI).to (fun r m1 h => by
    obtain ⟨⟨v, rfl⟩, h2⟩ := h
    exact ⟨v, rfl, h2.to (fun r m3 h => by obtain ⟨⟨w, rfl⟩, hJ⟩ := h; exact ⟨w, rfl, K m3 hJ⟩)⟩))
def O_mean (ad : Nat → Nat) (d : Nat) (I J : Wm → Prop) : Prop := ∀ a b : Int32, OpW ad d μX11_mean μX12_mean [.int a, .int b] I J
set_option maxHeartbeats 1000000 in
theorem L_mean {ad : Nat → Nat} {sb Ls kc ks d : Nat} {xs : Nat → Int32} {Q : Option Value → Wm → Prop} {m : Wm} {x4 : Int32} {I J : Wm → Prop} (hv1 : vp_in (x4 + (1 : Int32)) Ls) (hv2 : vp_in (x4 + (2 : Int32)) Ls) (ho : O_mean ad d I J) (hI : I m) (K : ∀ m', J m' → AWl LAY ad (EX (SX sb Ls xs) kc ks LAY) μL_law (d + 301) Q 23 [(0, .ref sb), (1, .ref (ad 0)), (2, .ref (ad 187)), (3, .ref (ad 217)), (4, .int (x4 + (6 : Int32)))] [] m') : AWl LAY ad (EX (SX sb Ls xs) (kc + 1) (ks + 6) LAY) μL_law (d + 301) Q 951 [(0, .ref sb), (1, .ref (ad 0)), (2, .ref (ad 187)), (3, .ref (ad 217)), (4, .int x4)] [] m := g_L_law_951 ⟨hv1, hv2, (ho _ _ m hI).to (fun r m1 h => by
    obtain ⟨⟨v, rfl⟩, h2⟩ := h
    exact ⟨v, rfl, hv1, hv2, h2.to (fun r m3 h => by obtain ⟨⟨w, rfl⟩, hJ⟩ := h; exact ⟨w, rfl, K m3 hJ⟩)⟩)⟩
def O_soon (ad : Nat → Nat) (d : Nat) (I J : Wm → Prop) : Prop := ∀ a b c : Int32, OpW ad d μX11_soon μX12_soon [.int a, .int b, .int c] I J
set_option maxHeartbeats 1000000 in
theorem L_soon {ad : Nat → Nat} {sb Ls kc ks d : Nat} {xs : Nat → Int32} {Q : Option Value → Wm → Prop} {m : Wm} {x4 : Int32} {I J : Wm → Prop} (hv1 : vp_in (x4 + (1 : Int32)) Ls) (hv2 : vp_in (x4 + (2 : Int32)) Ls) (hv3 : vp_in (x4 + (3 : Int32)) Ls) (ho : O_soon ad d I J) (hI : I m) (K : ∀ m', J m' → AWl LAY ad (EX (SX sb Ls xs) kc ks LAY) μL_law (d + 301) Q 23 [(0, .ref sb), (1, .ref (ad 0)), (2, .ref (ad 187)), (3, .ref (ad 217)), (4, .int (x4 + (6 : Int32)))] [] m') : AWl LAY ad (EX (SX sb Ls xs) (kc + 1) (ks + 6) LAY) μL_law (d + 301) Q 988 [(0, .ref sb), (1, .ref (ad 0)), (2, .ref (ad 187)), (3, .ref (ad 217)), (4, .int x4)] [] m := g_L_law_988 ⟨hv1, hv2, hv3, (ho _ _ _ m hI).to (fun r m1 h => by
    obtain ⟨⟨v, rfl⟩, h2⟩ := h
    exact ⟨v, rfl, hv1, hv2, hv3, h2.to (fun r m3 h => by obtain ⟨⟨w, rfl⟩, hJ⟩ := h; exact ⟨w, rfl, K m3 hJ⟩)⟩)⟩
def O_wins (ad : Nat → Nat) (d : Nat) (I J : Wm → Prop) : Prop := ∀ a b c : Int32, OpW ad d μX11_wins μX12_wins [.int a, .int b, .int c] I J
set_option maxHeartbeats 1000000 in
theorem L_wins {ad : Nat → Nat} {sb Ls kc ks d : Nat} {xs : Nat → Int32} {Q : Option Value → Wm → Prop} {m : Wm} {x4 : Int32} {I J : Wm → Prop} (hv1 : vp_in (x4 + (1 : Int32)) Ls) (hv2 : vp_in (x4 + (2 : Int32)) Ls) (hv3 : vp_in (x4 + (3 : Int32)) Ls) (ho : O_wins ad d I J) (hI : I m) (K : ∀ m', J m' → AWl LAY ad (EX (SX sb Ls xs) kc ks LAY) μL_law (d + 301) Q 23 [(0, .ref sb), (1, .ref (ad 0)), (2, .ref (ad 187)), (3, .ref (ad 217)), (4, .int (x4 + (6 : Int32)))] [] m') : AWl LAY ad (EX (SX sb Ls xs) (kc + 1) (ks + 6) LAY) μL_law (d + 301) Q 1037 [(0, .ref sb), (1, .ref (ad 0)), (2, .ref (ad 187)), (3, .ref (ad 217)), (4, .int x4)] [] m := g_L_law_1037 ⟨hv1, hv2, hv3, (ho _ _ _ m hI).to (fun r m1 h => by
    obtain ⟨⟨v, rfl⟩, h2⟩ := h
    exact ⟨v, rfl, hv1, hv2, hv3, h2.to (fun r m3 h => by obtain ⟨⟨w, rfl⟩, hJ⟩ := h; exact ⟨w, rfl, K m3 hJ⟩)⟩)⟩
def O_hopes (ad : Nat → Nat) (d : Nat) (I J : Wm → Prop) : Prop := ∀ a : Int32, OpW ad d μX11_hopes μX12_hopes [.int a] I J
set_option maxHeartbeats 1000000 in
theorem L_hopes {ad : Nat → Nat} {sb Ls kc ks d : Nat} {xs : Nat → Int32} {Q : Option Value → Wm → Prop} {m : Wm} {x4 : Int32} {I J : Wm → Prop} (hv1 : vp_in (x4 + (1 : Int32)) Ls) (ho : O_hopes ad d I J) (hI : I m) (K : ∀ m', J m' → AWl LAY ad (EX (SX sb Ls xs) kc ks LAY) μL_law (d + 301) Q 23 [(0, .ref sb), (1, .ref (ad 0)), (2, .ref (ad 187)), (3, .ref (ad 217)), (4, .int (x4 + (6 : Int32)))] [] m') : AWl LAY ad (EX (SX sb Ls xs) (kc + 1) (ks + 6) LAY) μL_law (d + 301) Q 1086 [(0, .ref sb), (1, .ref (ad 0)), (2, .ref (ad 187)), (3, .ref (ad 217)), (4, .int x4)] [] m := g_L_law_1086 ⟨hv1, (ho _ m hI).to (fun r m1 h => by
    obtain ⟨⟨v, rfl⟩, h2⟩ := h
    exact ⟨v, rfl, hv1, h2.to (fun r m3 h => by obtain ⟨⟨w, rfl⟩, hJ⟩ := h; exact ⟨w, rfl, K m3 hJ⟩)⟩)⟩
def O_top (ad : Nat → Nat) (d : Nat) (I J : Wm → Prop) : Prop := ∀ a b c : Int32, OpW ad d μX11_top μX12_top [.int a, .int b, .int c] I J
set_option maxHeartbeats 1000000 in
theorem L_top {ad : Nat → Nat} {sb Ls kc ks d : Nat} {xs : Nat → Int32} {Q : Option Value → Wm → Prop} {m : Wm} {x4 : Int32} {I J : Wm → Prop} (hv1 : vp_in (x4 + (1 : Int32)) Ls) (hv2 : vp_in (x4 + (2 : Int32)) Ls) (hv3 : vp_in (x4 + (3 : Int32)) Ls) (ho : O_top ad d I J) (hI : I m) (K : ∀ m', J m' → AWl LAY ad (EX (SX sb Ls xs) kc ks LAY) μL_law (d + 301) Q 23 [(0, .ref sb), (1, .ref (ad 0)), (2, .ref (ad 187)), (3, .ref (ad 217)), (4, .int (x4 + (6 : Int32)))] [] m') : AWl LAY ad (EX (SX sb Ls xs) (kc + 1) (ks + 6) LAY) μL_law (d + 301) Q 1111 [(0, .ref sb), (1, .ref (ad 0)), (2, .ref (ad 187)), (3, .ref (ad 217)), (4, .int x4)] [] m := g_L_law_1111 ⟨hv1, hv2, hv3, (ho _ _ _ m hI).to (fun r m1 h => by
    obtain ⟨⟨v, rfl⟩, h2⟩ := h
    exact ⟨v, rfl, hv1, hv2, hv3, h2.to (fun r m3 h => by obtain ⟨⟨w, rfl⟩, hJ⟩ := h; exact ⟨w, rfl, K m3 hJ⟩)⟩)⟩
def O_quick (ad : Nat → Nat) (d : Nat) (I J : Wm → Prop) : Prop := ∀ a : Int32, OpW ad d μX11_quick μX12_quick [.int a] I J
set_option maxHeartbeats 1000000 in
theorem L_quick {ad : Nat → Nat} {sb Ls kc ks d : Nat} {xs : Nat → Int32} {Q : Option Value → Wm → Prop} {m : Wm} {x4 : Int32} {I J : Wm → Prop} (hv1 : vp_in (x4 + (1 : Int32)) Ls) (ho : O_quick ad d I J) (hI : I m) (K : ∀ m', J m' → AWl LAY ad (EX (SX sb Ls xs) kc ks LAY) μL_law (d + 301) Q 23 [(0, .ref sb), (1, .ref (ad 0)), (2, .ref (ad 187)), (3, .ref (ad 217)), (4, .int (x4 + (6 : Int32)))] [] m') : AWl LAY ad (EX (SX sb Ls xs) (kc + 1) (ks + 6) LAY) μL_law (d + 301) Q 1160 [(0, .ref sb), (1, .ref (ad 0)), (2, .ref (ad 187)), (3, .ref (ad 217)), (4, .int x4)] [] m := g_L_law_1160 ⟨hv1, (ho _ m hI).to (fun r m1 h => by
    obtain ⟨⟨v, rfl⟩, h2⟩ := h
    exact ⟨v, rfl, hv1, h2.to (fun r m3 h => by obtain ⟨⟨w, rfl⟩, hJ⟩ := h; exact ⟨w, rfl, K m3 hJ⟩)⟩)⟩
def O_best (ad : Nat → Nat) (d : Nat) (I J : Wm → Prop) : Prop := ∀ a b : Int32, OpW ad d μX11_best μX12_best [.int a, .int b] I J
set_option maxHeartbeats 1000000 in
theorem L_best {ad : Nat → Nat} {sb Ls kc ks d : Nat} {xs : Nat → Int32} {Q : Option Value → Wm → Prop} {m : Wm} {x4 : Int32} {I J : Wm → Prop} (hv1 : vp_in (x4 + (1 : Int32)) Ls) (hv2 : vp_in (x4 + (2 : Int32)) Ls) (ho : O_best ad d I J) (hI : I m) (K : ∀ m', J m' → AWl LAY ad (EX (SX sb Ls xs) kc ks LAY) μL_law (d + 301) Q 23 [(0, .ref sb), (1, .ref (ad 0)), (2, .ref (ad 187)), (3, .ref (ad 217)), (4, .int (x4 + (6 : Int32)))] [] m') : AWl LAY ad (EX (SX sb Ls xs) (kc + 1) (ks + 6) LAY) μL_law (d + 301) Q 1185 [(0, .ref sb), (1, .ref (ad 0)), (2, .ref (ad 187)), (3, .ref (ad 217)), (4, .int x4)] [] m := g_L_law_1185 ⟨hv1, hv2, (ho _ _ m hI).to (fun r m1 h => by
    obtain ⟨⟨v, rfl⟩, h2⟩ := h
    exact ⟨v, rfl, hv1, hv2, h2.to (fun r m3 h => by obtain ⟨⟨w, rfl⟩, hJ⟩ := h; exact ⟨w, rfl, K m3 hJ⟩)⟩)⟩
def O_even (ad : Nat → Nat) (d : Nat) (I J : Wm → Prop) : Prop := ∀ a : Int32, OpW ad d μX11_even μX12_even [.int a] I J
set_option maxHeartbeats 1000000 in
theorem L_even {ad : Nat → Nat} {sb Ls kc ks d : Nat} {xs : Nat → Int32} {Q : Option Value → Wm → Prop} {m : Wm} {x4 : Int32} {I J : Wm → Prop} (hv1 : vp_in (x4 + (1 : Int32)) Ls) (ho : O_even ad d I J) (hI : I m) (K : ∀ m', J m' → AWl LAY ad (EX (SX sb Ls xs) kc ks LAY) μL_law (d + 301) Q 23 [(0, .ref sb), (1, .ref (ad 0)), (2, .ref (ad 187)), (3, .ref (ad 217)), (4, .int (x4 + (6 : Int32)))] [] m') : AWl LAY ad (EX (SX sb Ls xs) (kc + 1) (ks + 6) LAY) μL_law (d + 301) Q 1222 [(0, .ref sb), (1, .ref (ad 0)), (2, .ref (ad 187)), (3, .ref (ad 217)), (4, .int x4)] [] m := g_L_law_1222 ⟨hv1, (ho _ m hI).to (fun r m1 h => by
    obtain ⟨⟨v, rfl⟩, h2⟩ := h
    exact ⟨v, rfl, hv1, h2.to (fun r m3 h => by obtain ⟨⟨w, rfl⟩, hJ⟩ := h; exact ⟨w, rfl, K m3 hJ⟩)⟩)⟩
def O_all (ad : Nat → Nat) (d : Nat) (I J : Wm → Prop) : Prop := OpW ad d μX11_all μX12_all [] I J
set_option maxHeartbeats 1000000 in
theorem L_all {ad : Nat → Nat} {sb Ls kc ks d : Nat} {xs : Nat → Int32} {Q : Option Value → Wm → Prop} {m : Wm} {x4 : Int32} {I J : Wm → Prop}  (ho : O_all ad d I J) (hI : I m) (K : ∀ m', J m' → AWl LAY ad (EX (SX sb Ls xs) kc ks LAY) μL_law (d + 301) Q 23 [(0, .ref sb), (1, .ref (ad 0)), (2, .ref (ad 187)), (3, .ref (ad 217)), (4, .int (x4 + (6 : Int32)))] [] m') : AWl LAY ad (EX (SX sb Ls xs) (kc + 1) (ks + 6) LAY) μL_law (d + 301) Q 1247 [(0, .ref sb), (1, .ref (ad 0)), (2, .ref (ad 187)), (3, .ref (ad 217)), (4, .int x4)] [] m := g_L_law_1247 ((ho  m hI).to (fun r m1 h => by
    obtain ⟨⟨v, rfl⟩, h2⟩ := h
    exact ⟨v, rfl, h2.to (fun r m3 h => by obtain ⟨⟨w, rfl⟩, hJ⟩ := h; exact ⟨w, rfl, K m3 hJ⟩)⟩))
def O_next (ad : Nat → Nat) (d : Nat) (I J : Wm → Prop) : Prop := ∀ a : Int32, OpW ad d μX11_next μX12_next [.int a] I J
set_option maxHeartbeats 1000000 in
theorem L_next {ad : Nat → Nat} {sb Ls kc ks d : Nat} {xs : Nat → Int32} {Q : Option Value → Wm → Prop} {m : Wm} {x4 : Int32} {I J : Wm → Prop} (hv1 : vp_in (x4 + (1 : Int32)) Ls) (ho : O_next ad d I J) (hI : I m) (K : ∀ m', J m' → AWl LAY ad (EX (SX sb Ls xs) kc ks LAY) μL_law (d + 301) Q 23 [(0, .ref sb), (1, .ref (ad 0)), (2, .ref (ad 187)), (3, .ref (ad 217)), (4, .int (x4 + (6 : Int32)))] [] m') : AWl LAY ad (EX (SX sb Ls xs) (kc + 1) (ks + 6) LAY) μL_law (d + 301) Q 1260 [(0, .ref sb), (1, .ref (ad 0)), (2, .ref (ad 187)), (3, .ref (ad 217)), (4, .int x4)] [] m := g_L_law_1260 ⟨hv1, (ho _ m hI).to (fun r m1 h => by
    obtain ⟨⟨v, rfl⟩, h2⟩ := h
    exact ⟨v, rfl, hv1, h2.to (fun r m3 h => by obtain ⟨⟨w, rfl⟩, hJ⟩ := h; exact ⟨w, rfl, K m3 hJ⟩)⟩)⟩
def O_seen (ad : Nat → Nat) (d : Nat) (I J : Wm → Prop) : Prop := ∀ a b c : Int32, OpW ad d μX11_seen μX12_seen [.int a, .int b, .int c] I J
set_option maxHeartbeats 1000000 in
theorem L_seen {ad : Nat → Nat} {sb Ls kc ks d : Nat} {xs : Nat → Int32} {Q : Option Value → Wm → Prop} {m : Wm} {x4 : Int32} {I J : Wm → Prop} (hv1 : vp_in (x4 + (1 : Int32)) Ls) (hv2 : vp_in (x4 + (2 : Int32)) Ls) (hv3 : vp_in (x4 + (3 : Int32)) Ls) (ho : O_seen ad d I J) (hI : I m) (K : ∀ m', J m' → AWl LAY ad (EX (SX sb Ls xs) kc ks LAY) μL_law (d + 301) Q 23 [(0, .ref sb), (1, .ref (ad 0)), (2, .ref (ad 187)), (3, .ref (ad 217)), (4, .int (x4 + (6 : Int32)))] [] m') : AWl LAY ad (EX (SX sb Ls xs) (kc + 1) (ks + 6) LAY) μL_law (d + 301) Q 1285 [(0, .ref sb), (1, .ref (ad 0)), (2, .ref (ad 187)), (3, .ref (ad 217)), (4, .int x4)] [] m := g_L_law_1285 ⟨hv1, hv2, hv3, (ho _ _ _ m hI).to (fun r m1 h => by
    obtain ⟨⟨v, rfl⟩, h2⟩ := h
    exact ⟨v, rfl, hv1, hv2, hv3, h2.to (fun r m3 h => by obtain ⟨⟨w, rfl⟩, hJ⟩ := h; exact ⟨w, rfl, K m3 hJ⟩)⟩)⟩
def O_found (ad : Nat → Nat) (d : Nat) (I J : Wm → Prop) : Prop := OpW ad d μX11_found μX12_found [] I J
set_option maxHeartbeats 1000000 in
theorem L_found {ad : Nat → Nat} {sb Ls kc ks d : Nat} {xs : Nat → Int32} {Q : Option Value → Wm → Prop} {m : Wm} {x4 : Int32} {I J : Wm → Prop}  (ho : O_found ad d I J) (hI : I m) (K : ∀ m', J m' → AWl LAY ad (EX (SX sb Ls xs) kc ks LAY) μL_law (d + 301) Q 23 [(0, .ref sb), (1, .ref (ad 0)), (2, .ref (ad 187)), (3, .ref (ad 217)), (4, .int (x4 + (6 : Int32)))] [] m') : AWl LAY ad (EX (SX sb Ls xs) (kc + 1) (ks + 6) LAY) μL_law (d + 301) Q 1334 [(0, .ref sb), (1, .ref (ad 0)), (2, .ref (ad 187)), (3, .ref (ad 217)), (4, .int x4)] [] m := g_L_law_1334 ((ho  m hI).to (fun r m1 h => by
    obtain ⟨⟨v, rfl⟩, h2⟩ := h
    exact ⟨v, rfl, h2.to (fun r m3 h => by obtain ⟨⟨w, rfl⟩, hJ⟩ := h; exact ⟨w, rfl, K m3 hJ⟩)⟩))
def O_prize (ad : Nat → Nat) (d : Nat) (I J : Wm → Prop) : Prop := OpW ad d μX11_prize μX12_prize [] I J
set_option maxHeartbeats 1000000 in
theorem L_prize {ad : Nat → Nat} {sb Ls kc ks d : Nat} {xs : Nat → Int32} {Q : Option Value → Wm → Prop} {m : Wm} {x4 : Int32} {I J : Wm → Prop}  (ho : O_prize ad d I J) (hI : I m) (K : ∀ m', J m' → AWl LAY ad (EX (SX sb Ls xs) kc ks LAY) μL_law (d + 301) Q 23 [(0, .ref sb), (1, .ref (ad 0)), (2, .ref (ad 187)), (3, .ref (ad 217)), (4, .int (x4 + (6 : Int32)))] [] m') : AWl LAY ad (EX (SX sb Ls xs) (kc + 1) (ks + 6) LAY) μL_law (d + 301) Q 1347 [(0, .ref sb), (1, .ref (ad 0)), (2, .ref (ad 187)), (3, .ref (ad 217)), (4, .int x4)] [] m := g_L_law_1347 ((ho  m hI).to (fun r m1 h => by
    obtain ⟨⟨v, rfl⟩, h2⟩ := h
    exact ⟨v, rfl, h2.to (fun r m3 h => by obtain ⟨⟨w, rfl⟩, hJ⟩ := h; exact ⟨w, rfl, K m3 hJ⟩)⟩))
def O_pays (ad : Nat → Nat) (d : Nat) (I J : Wm → Prop) : Prop := ∀ a b : Int32, OpW ad d μX11_pays μX12_pays [.int a, .int b] I J
set_option maxHeartbeats 1000000 in
theorem L_pays {ad : Nat → Nat} {sb Ls kc ks d : Nat} {xs : Nat → Int32} {Q : Option Value → Wm → Prop} {m : Wm} {x4 : Int32} {I J : Wm → Prop} (hv1 : vp_in (x4 + (1 : Int32)) Ls) (hv2 : vp_in (x4 + (2 : Int32)) Ls) (ho : O_pays ad d I J) (hI : I m) (K : ∀ m', J m' → AWl LAY ad (EX (SX sb Ls xs) kc ks LAY) μL_law (d + 301) Q 23 [(0, .ref sb), (1, .ref (ad 0)), (2, .ref (ad 187)), (3, .ref (ad 217)), (4, .int (x4 + (6 : Int32)))] [] m') : AWl LAY ad (EX (SX sb Ls xs) (kc + 1) (ks + 6) LAY) μL_law (d + 301) Q 1360 [(0, .ref sb), (1, .ref (ad 0)), (2, .ref (ad 187)), (3, .ref (ad 217)), (4, .int x4)] [] m := g_L_law_1360 ⟨hv1, hv2, (ho _ _ m hI).to (fun r m1 h => by
    obtain ⟨⟨v, rfl⟩, h2⟩ := h
    exact ⟨v, rfl, hv1, hv2, h2.to (fun r m3 h => by obtain ⟨⟨w, rfl⟩, hJ⟩ := h; exact ⟨w, rfl, K m3 hJ⟩)⟩)⟩
def O_laws (ad : Nat → Nat) (d : Nat) (I J : Wm → Prop) : Prop := ∀ a : Int32, OpW ad d μX11_laws μX12_laws [.int a] I J
set_option maxHeartbeats 1000000 in
theorem L_laws {ad : Nat → Nat} {sb Ls kc ks d : Nat} {xs : Nat → Int32} {Q : Option Value → Wm → Prop} {m : Wm} {x4 : Int32} {I J : Wm → Prop} (hv1 : vp_in (x4 + (1 : Int32)) Ls) (ho : O_laws ad d I J) (hI : I m) (K : ∀ m', J m' → AWl LAY ad (EX (SX sb Ls xs) kc ks LAY) μL_law (d + 301) Q 23 [(0, .ref sb), (1, .ref (ad 0)), (2, .ref (ad 187)), (3, .ref (ad 217)), (4, .int (x4 + (6 : Int32)))] [] m') : AWl LAY ad (EX (SX sb Ls xs) (kc + 1) (ks + 6) LAY) μL_law (d + 301) Q 1397 [(0, .ref sb), (1, .ref (ad 0)), (2, .ref (ad 187)), (3, .ref (ad 217)), (4, .int x4)] [] m := g_L_law_1397 ⟨hv1, (ho _ m hI).to (fun r m1 h => by
    obtain ⟨⟨v, rfl⟩, h2⟩ := h
    exact ⟨v, rfl, hv1, h2.to (fun r m3 h => by obtain ⟨⟨w, rfl⟩, hJ⟩ := h; exact ⟨w, rfl, K m3 hJ⟩)⟩)⟩
def O_seed (ad : Nat → Nat) (d : Nat) (I J : Wm → Prop) : Prop := ∀ a : Int32, OpW ad d μX11_seed μX12_seed [.int a] I J
set_option maxHeartbeats 1000000 in
theorem L_seed {ad : Nat → Nat} {sb Ls kc ks d : Nat} {xs : Nat → Int32} {Q : Option Value → Wm → Prop} {m : Wm} {x4 : Int32} {I J : Wm → Prop} (hv1 : vp_in (x4 + (1 : Int32)) Ls) (ho : O_seed ad d I J) (hI : I m) (K : ∀ m', J m' → AWl LAY ad (EX (SX sb Ls xs) kc ks LAY) μL_law (d + 301) Q 23 [(0, .ref sb), (1, .ref (ad 0)), (2, .ref (ad 187)), (3, .ref (ad 217)), (4, .int (x4 + (6 : Int32)))] [] m') : AWl LAY ad (EX (SX sb Ls xs) (kc + 1) (ks + 6) LAY) μL_law (d + 301) Q 1422 [(0, .ref sb), (1, .ref (ad 0)), (2, .ref (ad 187)), (3, .ref (ad 217)), (4, .int x4)] [] m := g_L_law_1422 ⟨hv1, (ho _ m hI).to (fun r m1 h => by
    obtain ⟨⟨v, rfl⟩, h2⟩ := h
    exact ⟨v, rfl, hv1, h2.to (fun r m3 h => by obtain ⟨⟨w, rfl⟩, hJ⟩ := h; exact ⟨w, rfl, K m3 hJ⟩)⟩)⟩
def O_keep (ad : Nat → Nat) (d : Nat) (I J : Wm → Prop) : Prop := ∀ a : Int32, OpW ad d μX11_keep μX12_keep [.int a] I J
set_option maxHeartbeats 1000000 in
theorem L_keep {ad : Nat → Nat} {sb Ls kc ks d : Nat} {xs : Nat → Int32} {Q : Option Value → Wm → Prop} {m : Wm} {x4 : Int32} {I J : Wm → Prop} (hv1 : vp_in (x4 + (1 : Int32)) Ls) (ho : O_keep ad d I J) (hI : I m) (K : ∀ m', J m' → AWl LAY ad (EX (SX sb Ls xs) kc ks LAY) μL_law (d + 301) Q 23 [(0, .ref sb), (1, .ref (ad 0)), (2, .ref (ad 187)), (3, .ref (ad 217)), (4, .int (x4 + (6 : Int32)))] [] m') : AWl LAY ad (EX (SX sb Ls xs) (kc + 1) (ks + 6) LAY) μL_law (d + 301) Q 1447 [(0, .ref sb), (1, .ref (ad 0)), (2, .ref (ad 187)), (3, .ref (ad 217)), (4, .int x4)] [] m := g_L_law_1447 ⟨hv1, (ho _ m hI).to (fun r m1 h => by
    obtain ⟨⟨v, rfl⟩, h2⟩ := h
    exact ⟨v, rfl, hv1, h2.to (fun r m3 h => by obtain ⟨⟨w, rfl⟩, hJ⟩ := h; exact ⟨w, rfl, K m3 hJ⟩)⟩)⟩
def O_again (ad : Nat → Nat) (d : Nat) (I J : Wm → Prop) : Prop := ∀ a : Int32, OpW ad d μX11_again μX12_again [.int a] I J
set_option maxHeartbeats 1000000 in
theorem L_again {ad : Nat → Nat} {sb Ls kc ks d : Nat} {xs : Nat → Int32} {Q : Option Value → Wm → Prop} {m : Wm} {x4 : Int32} {I J : Wm → Prop} (hv1 : vp_in (x4 + (1 : Int32)) Ls) (ho : O_again ad d I J) (hI : I m) (K : ∀ m', J m' → AWl LAY ad (EX (SX sb Ls xs) kc ks LAY) μL_law (d + 301) Q 23 [(0, .ref sb), (1, .ref (ad 0)), (2, .ref (ad 187)), (3, .ref (ad 217)), (4, .int (x4 + (6 : Int32)))] [] m') : AWl LAY ad (EX (SX sb Ls xs) (kc + 1) (ks + 6) LAY) μL_law (d + 301) Q 1472 [(0, .ref sb), (1, .ref (ad 0)), (2, .ref (ad 187)), (3, .ref (ad 217)), (4, .int x4)] [] m := g_L_law_1472 ⟨hv1, (ho _ m hI).to (fun r m1 h => by
    obtain ⟨⟨v, rfl⟩, h2⟩ := h
    exact ⟨v, rfl, hv1, h2.to (fun r m3 h => by obtain ⟨⟨w, rfl⟩, hJ⟩ := h; exact ⟨w, rfl, K m3 hJ⟩)⟩)⟩
def O_count (ad : Nat → Nat) (d : Nat) (I J : Wm → Prop) : Prop := ∀ a : Int32, OpW ad d μX11_count μX12_count [.int a] I J
set_option maxHeartbeats 1000000 in
theorem L_count {ad : Nat → Nat} {sb Ls kc ks d : Nat} {xs : Nat → Int32} {Q : Option Value → Wm → Prop} {m : Wm} {x4 : Int32} {I J : Wm → Prop} (hv1 : vp_in (x4 + (1 : Int32)) Ls) (ho : O_count ad d I J) (hI : I m) (K : ∀ m', J m' → AWl LAY ad (EX (SX sb Ls xs) kc ks LAY) μL_law (d + 301) Q 23 [(0, .ref sb), (1, .ref (ad 0)), (2, .ref (ad 187)), (3, .ref (ad 217)), (4, .int (x4 + (6 : Int32)))] [] m') : AWl LAY ad (EX (SX sb Ls xs) (kc + 1) (ks + 6) LAY) μL_law (d + 301) Q 1497 [(0, .ref sb), (1, .ref (ad 0)), (2, .ref (ad 187)), (3, .ref (ad 217)), (4, .int x4)] [] m := g_L_law_1497 ⟨hv1, (ho _ m hI).to (fun r m1 h => by
    obtain ⟨⟨v, rfl⟩, h2⟩ := h
    exact ⟨v, rfl, hv1, h2.to (fun r m3 h => by obtain ⟨⟨w, rfl⟩, hJ⟩ := h; exact ⟨w, rfl, K m3 hJ⟩)⟩)⟩
def O_row (ad : Nat → Nat) (d : Nat) (I J : Wm → Prop) : Prop := ∀ a : Int32, OpRowW ad d a I J
set_option maxHeartbeats 1000000 in
theorem L_row {ad : Nat → Nat} {sb Ls kc ks d : Nat} {xs : Nat → Int32} {Q : Option Value → Wm → Prop} {m : Wm} {x4 : Int32} {I J : Wm → Prop} (hv1 : vp_in (x4 + (1 : Int32)) Ls) (ho : O_row ad d I J) (hI : I m) (K : ∀ m', J m' → AWl LAY ad (EX (SX sb Ls xs) kc ks LAY) μL_law (d + 301) Q 23 [(0, .ref sb), (1, .ref (ad 0)), (2, .ref (ad 187)), (3, .ref (ad 217)), (4, .int (x4 + (6 : Int32)))] [] m') : AWl LAY ad (EX (SX sb Ls xs) (kc + 1) (ks + 6) LAY) μL_law (d + 301) Q 1522 [(0, .ref sb), (1, .ref (ad 0)), (2, .ref (ad 187)), (3, .ref (ad 217)), (4, .int x4)] [] m := g_L_law_1522 ⟨hv1, Ctg.mono (ho _ m hI) (fun r m1 h => by
    obtain ⟨⟨v, rfl⟩, h2⟩ := h
    refine ⟨v, rfl, hv1, h2.to (fun r m3 h => ?_)⟩
    obtain ⟨⟨w, rfl⟩, hJ⟩ := h
    exact ⟨w, rfl, K m3 hJ⟩)⟩
def OPS (ad : Nat → Nat) (d : Nat) (I J : Wm → Prop) : Prop := O_sign ad d I J ∧ O_end ad d I J ∧ O_league ad d I J ∧ O_rule ad d I J ∧ O_plan ad d I J ∧ O_skill ad d I J ∧ O_of ad d I J ∧ O_law ad d I J ∧ O_sheet ad d I J ∧ O_ill ad d I J ∧ O_swap ad d I J ∧ O_circle ad d I J ∧ O_game ad d I J ∧ O_odds ad d I J ∧ O_play ad d I J ∧ O_undo ad d I J ∧ O_judge ad d I J ∧ O_rounds ad d I J ∧ O_beats ad d I J ∧ O_kings ad d I J ∧ O_master ad d I J ∧ O_table ad d I J ∧ O_spread ad d I J ∧ O_rest ad d I J ∧ O_mean ad d I J ∧ O_soon ad d I J ∧ O_wins ad d I J ∧ O_hopes ad d I J ∧ O_top ad d I J ∧ O_quick ad d I J ∧ O_best ad d I J ∧ O_even ad d I J ∧ O_all ad d I J ∧ O_next ad d I J ∧ O_seen ad d I J ∧ O_found ad d I J ∧ O_prize ad d I J ∧ O_pays ad d I J ∧ O_laws ad d I J ∧ O_seed ad d I J ∧ O_keep ad d I J ∧ O_again ad d I J ∧ O_count ad d I J ∧ O_row ad d I J ∧ ∀ m, I m → J m
set_option maxRecDepth 100000 in
set_option maxHeartbeats 4000000 in
theorem law_step {ad : Nat → Nat} {sb Ls kc ks d : Nat} {xs : Nat → Int32} {Q : Option Value → Wm → Prop} {m : Wm} {x4 : Int32} {I J : Wm → Prop} (hn : ¬ (Int32.ofNat Ls) - (6 : Int32) < x4) (hv0 : vp_in x4 Ls) (hv1 : vp_in (x4 + (1 : Int32)) Ls) (hv2 : vp_in (x4 + (2 : Int32)) Ls) (hv3 : vp_in (x4 + (3 : Int32)) Ls) (hv4 : vp_in (x4 + (4 : Int32)) Ls) (hv5 : vp_in (x4 + (5 : Int32)) Ls) (hO : OPS ad d I J) (hI : I m) (K : ∀ m', J m' → AWl LAY ad (EX (SX sb Ls xs) kc ks LAY) μL_law (d + 301) Q 23 [(0, .ref sb), (1, .ref (ad 0)), (2, .ref (ad 187)), (3, .ref (ad 217)), (4, .int (x4 + (6 : Int32)))] [] m') : AWl LAY ad (EX (SX sb Ls xs) (kc + 1) (ks + 6) LAY) μL_law (d + 301) Q 23 [(0, .ref sb), (1, .ref (ad 0)), (2, .ref (ad 187)), (3, .ref (ad 217)), (4, .int x4)] [] m := by
  obtain ⟨h_sign, h_end, h_league, h_rule, h_plan, h_skill, h_of, h_law, h_sheet, h_ill, h_swap, h_circle, h_game, h_odds, h_play, h_undo, h_judge, h_rounds, h_beats, h_kings, h_master, h_table, h_spread, h_rest, h_mean, h_soon, h_wins, h_hopes, h_top, h_quick, h_best, h_even, h_all, h_next, h_seen, h_found, h_prize, h_pays, h_laws, h_seed, h_keep, h_again, h_count, h_row, hdef⟩ := hO
  exact g_L_law_23 ⟨fun h => absurd h hn, fun _ => ⟨hv0, fun _ => L_sign hv1 h_sign hI K, fun _ => L_end hv1 h_end hI K, fun _ => L_league h_league hI K, fun _ => L_rule h_rule hI K, fun _ => L_plan h_plan hI K, fun _ => L_skill hv1 hv2 h_skill hI K, fun _ => L_of hv1 hv2 h_of hI K, fun _ => L_law hv1 hv2 h_law hI K, fun _ => L_sheet hv1 hv2 hv3 hv4 hv5 h_sheet hI K, fun _ => L_ill hv1 hv2 h_ill hI K, fun _ => L_swap hv1 hv2 h_swap hI K, fun _ => L_circle h_circle hI K, fun _ => L_game hv1 hv2 hv3 h_game hI K, fun _ => L_odds hv1 hv2 h_odds hI K, fun _ => L_play hv1 hv2 hv3 h_play hI K, fun _ => L_undo h_undo hI K, fun _ => L_judge hv1 hv2 h_judge hI K, fun _ => L_rounds hv1 h_rounds hI K, fun _ => L_beats hv1 h_beats hI K, fun _ => L_kings h_kings hI K, fun _ => L_master hv1 h_master hI K, fun _ => L_table h_table hI K, fun _ => L_spread h_spread hI K, fun _ => L_rest h_rest hI K, fun _ => L_mean hv1 hv2 h_mean hI K, fun _ => L_soon hv1 hv2 hv3 h_soon hI K, fun _ => L_wins hv1 hv2 hv3 h_wins hI K, fun _ => L_hopes hv1 h_hopes hI K, fun _ => L_top hv1 hv2 hv3 h_top hI K, fun _ => L_quick hv1 h_quick hI K, fun _ => L_best hv1 hv2 h_best hI K, fun _ => L_even hv1 h_even hI K, fun _ => L_all h_all hI K, fun _ => L_next hv1 h_next hI K, fun _ => L_seen hv1 hv2 hv3 h_seen hI K, fun _ => L_found h_found hI K, fun _ => L_prize h_prize hI K, fun _ => L_pays hv1 hv2 h_pays hI K, fun _ => L_laws hv1 h_laws hI K, fun _ => L_seed hv1 h_seed hI K, fun _ => L_keep hv1 h_keep hI K, fun _ => L_again hv1 h_again hI K, fun _ => L_count hv1 h_count hI K, fun _ => L_row hv1 h_row hI K, fun _ _ _ _ _ _ _ _ _ _ _ _ _ _ _ _ _ _ _ _ _ _ _ _ _ _ _ _ _ _ _ _ _ _ _ _ _ _ _ _ _ _ _ _ => K m (hdef m hI)⟩⟩
theorem i32_sub6 {L : Nat} (h : L ≤ 3072) : ((Int32.ofNat L) - (6 : Int32)).toInt = (L : Int) - 6 := by
  rcases Nat.lt_or_ge L 6 with h6 | h6
  · have : L = 0 ∨ L = 1 ∨ L = 2 ∨ L = 3 ∨ L = 4 ∨ L = 5 := by omega
    rcases this with rfl | rfl | rfl | rfl | rfl | rfl <;> decide
  · obtain ⟨k, rfl⟩ : ∃ k, L = k + 6 := ⟨L - 6, by omega⟩
    have e : Int32.ofNat (k + 6) - (6 : Int32) = nI k := by
      have : Int32.ofNat (k + 6) = nI k + nI 6 := (nI_add k 6).symm
      rw [this]
      show nI k + nI 6 - nI 6 = nI k
      exact Int32.add_sub_cancel _ _
    rw [e, nI_toInt (by omega)]
    omega
theorem law_loop {ad : Nat → Nat} {sb Ls d n0 : Nat} {xs : Nat → Int32} {Inv : Nat → Wm → Prop} (hL : Ls ≤ 3072) (h0 : Ls / 6 = n0) (hop : ∀ k, k < n0 → OPS ad d (Inv k) (Inv (k + 1))) : ∀ (n k : Nat) (m : Wm), k + n = n0 → Inv k m → AWl LAY ad (EX (SX sb Ls xs) (n + 1) (6 * n + 6) LAY) μL_law (d + 301) (fun v _ => v = some (.int 1)) 23 [(0, .ref sb), (1, .ref (ad 0)), (2, .ref (ad 187)), (3, .ref (ad 217)), (4, .int (nI (6 * k)))] [] m := by
  intro n
  have six : (6 : Int32) = nI 6 := rfl
  induction n with
  | zero =>
    intro k m hk hI
    refine g_L_law_23 ⟨fun _ => rfl, fun h => absurd ?_ h⟩
    rw [fa_lt, i32_sub6 hL, nI_toInt (by omega)]
    omega
  | succ n ih =>
    intro k m hk hI
    have hv : ∀ j, j < 6 → vp_in (nI (6 * k) + nI j) Ls := fun j hj => by
      rw [nI_add]
      exact vp_in_nI (by omega) (by omega)
    refine law_step (J := Inv (k + 1)) ?_ (by have := hv 0 (by omega); rwa [nI_add] at this) (hv 1 (by omega)) (hv 2 (by omega)) (hv 3 (by omega)) (hv 4 (by omega)) (hv 5 (by omega)) (hop k (by omega)) hI (fun m' hJ => ?_)
    · rw [fa_lt, i32_sub6 hL, nI_toInt (by omega)]
      omega
    · have e : nI (6 * k) + (6 : Int32) = nI (6 * (k + 1)) := by rw [six, nI_add]; rfl
      rw [e]
      exact ih (k + 1) m' (by omega) hJ
end
section
/-! THE 44 CALLS OF THIS LAW -/
section OPW
variable {ad : Nat → Nat} {d kq : Nat}
theorem o_sign : O_sign ad d (InvK (KX KG kq)) (InvK (KX KG (kq + 1))) := fun a => (os_sign (KX.kd kq KG.kd) a).w
theorem o_end : O_end ad d (InvK (KX KG kq)) (InvK (KX KG (kq + 1))) := fun a => (os_end (KX.kd kq KG.kd) a).w
theorem o_league (hc : kq < 1000) : O_league ad d (InvK (KX KG kq)) (InvK (KX KG (kq + 1))) := (og_league kq hc).w
theorem o_rule : O_rule ad d (InvK (KX KG kq)) (InvK (KX KG (kq + 1))) := (os_rule (KG.rr kq) (KG.rl kq)).w
theorem o_plan : O_plan ad d (InvK (KX KG kq)) (InvK (KX KG (kq + 1))) := (ob_plan (KG.trn rfl rfl) kq).w
theorem o_skill : O_skill ad d (InvK (KX KG kq)) (InvK (KX KG (kq + 1))) := fun a b => (og_skill kq a b).w
theorem o_law : O_law ad d (InvK (KX KG kq)) (InvK (KX KG (kq + 1))) := fun a b => (og_law kq a b).w
theorem o_sheet : O_sheet ad d (InvK (KX KG kq)) (InvK (KX KG (kq + 1))) := fun a b c e f => (og_sheet kq a b c e f).w
theorem o_ill : O_ill ad d (InvK (KX KG kq)) (InvK (KX KG (kq + 1))) := fun a b hb => (og_ill kq a b hb).w
theorem o_swap : O_swap ad d (InvK (KX KG kq)) (InvK (KX KG (kq + 1))) := fun a b => (og_swap kq a b).w
theorem o_circle : O_circle ad d (InvK (KX KG kq)) (InvK (KX KG (kq + 1))) := (ob_circle (KG.trn rfl rfl) kq).w
theorem o_game : O_game ad d (InvK (KX KG kq)) (InvK (KX KG (kq + 1))) := fun a b c => (og_game kq a b c).w
theorem o_odds : O_odds ad d (InvK (KX KG kq)) (InvK (KX KG (kq + 1))) := fun a b => (og_odds kq a b).w
theorem o_play : O_play ad d (InvK (KX KG kq)) (InvK (KX KG (kq + 1))) := fun a b c => (og_play kq a b c).w
theorem o_undo : O_undo ad d (InvK (KX KG kq)) (InvK (KX KG (kq + 1))) := (og_undo kq).w
theorem o_judge : O_judge ad d (InvK (KX KG kq)) (InvK (KX KG (kq + 1))) := fun a b => (og_judge kq a b).w
theorem o_rounds : O_rounds ad d (InvK (KX KG kq)) (InvK (KX KG (kq + 1))) := fun a => (og_rounds kq a).w
theorem o_beats : O_beats ad d (InvK (KX KG kq)) (InvK (KX KG (kq + 1))) := fun a => (og_beats kq a).w
theorem o_kings : O_kings ad d (InvK (KX KG kq)) (InvK (KX KG (kq + 1))) := (og_kings kq).w
theorem o_master : O_master ad d (InvK (KX KG kq)) (InvK (KX KG (kq + 1))) := fun a => (og_master kq a).w
theorem o_table : O_table ad d (InvK (KX KG kq)) (InvK (KX KG (kq + 1))) := (os_table (KX.kd kq KG.kd)).w
theorem o_spread : O_spread ad d (InvK (KX KG kq)) (InvK (KX KG (kq + 1))) := (og_spread kq).w
theorem o_rest : O_rest ad d (InvK (KX KG kq)) (InvK (KX KG (kq + 1))) := og_rest kq
theorem o_mean : O_mean ad d (InvK (KX KG kq)) (InvK (KX KG (kq + 1))) := fun a b => og_mean kq a b
theorem o_soon : O_soon ad d (InvK (KX KG kq)) (InvK (KX KG (kq + 1))) := fun a b c => og_soon kq a b c
theorem o_wins : O_wins ad d (InvK (KX KG kq)) (InvK (KX KG (kq + 1))) := fun a b c => og_wins kq a b c
theorem o_hopes : O_hopes ad d (InvK (KX KG kq)) (InvK (KX KG (kq + 1))) := fun a => og_hopes kq a
theorem o_top : O_top ad d (InvK (KX KG kq)) (InvK (KX KG (kq + 1))) := fun a b c => og_top kq a b c
theorem o_quick : O_quick ad d (InvK (KX KG kq)) (InvK (KX KG (kq + 1))) := fun a => og_quick kq a
theorem o_best : O_best ad d (InvK (KX KG kq)) (InvK (KX KG (kq + 1))) := fun a b => og_best kq a b
theorem o_even : O_even ad d (InvK (KX KG kq)) (InvK (KX KG (kq + 1))) := fun a => og_even kq a
theorem o_all : O_all ad d (InvK (KX KG kq)) (InvK (KX KG (kq + 1))) := og_all kq
theorem o_next : O_next ad d (InvK (KX KG kq)) (InvK (KX KG (kq + 1))) := fun a => (og_next kq a).w
theorem o_seen : O_seen ad d (InvK (KX KG kq)) (InvK (KX KG (kq + 1))) := fun a b c => (os_seen (KX.kd kq KG.kd) a b c).w
theorem o_found : O_found ad d (InvK (KX KG kq)) (InvK (KX KG (kq + 1))) := ow_found (KX.kd kq KG.kd)
theorem o_prize : O_prize ad d (InvK (KX KG kq)) (InvK (KX KG (kq + 1))) := (og_prize kq).w
theorem o_pays : O_pays ad d (InvK (KX KG kq)) (InvK (KX KG (kq + 1))) := fun a b => (og_pays kq a b).w
theorem o_laws : O_laws ad d (InvK (KX KG kq)) (InvK (KX KG (kq + 1))) := fun a => (og_laws kq a).w
theorem o_seed : O_seed ad d (InvK (KX KG kq)) (InvK (KX KG (kq + 1))) := fun a => (og_seed kq a).w
theorem o_keep : O_keep ad d (InvK (KX KG kq)) (InvK (KX KG (kq + 1))) := fun a => (og_keep kq a).w
theorem o_again : O_again ad d (InvK (KX KG kq)) (InvK (KX KG (kq + 1))) := fun a => (og_again kq a).w
theorem o_count : O_count ad d (InvK (KX KG kq)) (InvK (KX KG (kq + 1))) := fun a => ow_count (KX.kd kq KG.kd) a
section OFC
variable {ad : Nat → Nat} {d : Nat} {m : Wm} {g : GS} {v : EV} {x y : Int32}
theorem e_ofC (w : WT m) (hc : HC 21 m g) (ec : EC m v) : CtX ad μX11_of (d + 299) [.ref (ad 0), .int x, .int y] m (fun r m' => WT m' ∧ Fx (RS [14]) m m' ∧ ∃ z : Int32, ofA v g x y = some z ∧ r = some (.int z)) (fun m' => WT m' ∧ Fx (RS [14]) m m' ∧ ofA v g x y = none) := by
  have n8 := ec.2.2.1
  refine v_X11_of (d := d + 293) ((hasC ec.1 n8).to ?_)
  rintro _ m1 ⟨eq, v1, rfl, y1, y2⟩
  obtain rfl := eq.symm
  refine ⟨v1, rfl, fun c => ?_, fun c => ⟨w, Fx.rf, ofA_no (y1 c)⟩⟩
  have hI := y2 c
  obtain ⟨s, hs, rfl⟩ := hI.of
  have e := ofA_in (g := g) (y := y) hI (by omega)
  have V : vp_in (nI s) 8 := nat_in (by omega) (by decide)
  have k10 : (1 : Int32) ≠ 0 := by decide
  have k20 : (2 : Int32) ≠ 0 := by decide
  have k21 : (2 : Int32) ≠ 1 := by decide
  have k30 : (3 : Int32) ≠ 0 := by decide
  have k31 : (3 : Int32) ≠ 1 := by decide
  have k32 : (3 : Int32) ≠ 2 := by decide
  have k40 : (4 : Int32) ≠ 0 := by decide
  have k41 : (4 : Int32) ≠ 1 := by decide
  have k42 : (4 : Int32) ≠ 2 := by decide
  have k43 : (4 : Int32) ≠ 3 := by decide
  refine ⟨fun q => (powC (d := d + 294) w hc ec (by omega)).to ?_, fun q => ⟨V, w, Fx.rf, _, ?_, rfl⟩, fun q => ⟨V, w, Fx.rf, _, ?_, rfl⟩, fun q => (isIllC ec.2.2.2.2.2.1.1 (by omega)).to ?_, fun q => ⟨V, w, Fx.rf, _, ?_, rfl⟩, fun q0 q1 q2 q3 q4 => ⟨w, Fx.rf, ?_⟩⟩
  · rintro _ m2 ⟨w2, f2, rfl⟩
    exact ⟨_, rfl, w2, f2, _, by rw [e, if_pos q], rfl⟩
  · subst q
    rw [e, if_neg k10, if_pos rfl, nI_clamp (by omega), hc.2.1 s (by omega)]
  · subst q
    rw [e, if_neg k20, if_neg k21, if_pos rfl, nI_clamp (by omega), hc.2.2.1 s (by omega)]
  · rintro _ m2 ⟨eq, rfl⟩
    obtain rfl := eq.symm
    subst q
    rw [e, if_neg k30, if_neg k31, if_neg k32, if_pos rfl]
    cases iE v s with
    | true => exact ⟨_, rfl, fun z => absurd z (by decide), fun _ => ⟨w, Fx.rf, 1, rfl, rfl⟩⟩
    | false => exact ⟨_, rfl, fun _ => ⟨w, Fx.rf, 0, rfl, rfl⟩, fun z => absurd rfl z⟩
  · subst q
    rw [e, if_neg k40, if_neg k41, if_neg k42, if_neg k43, if_pos rfl, nI_clamp (by omega), hc.2.2.2.1 s (by omega)]
  · rw [e, if_neg q0, if_neg q1, if_neg q2, if_neg q3, if_neg q4]
end OFC
theorem ul_eq {m : Wm} {a k : Nat} {x : Int64} : (uL m a k x).2.1 a k = x := if_pos ⟨rfl, rfl⟩
theorem o_of : O_of ad d (InvK (KX KG kq)) (InvK (KX KG (kq + 1))) := fun a b m I => by
  obtain ⟨w, I1, ⟨g, v, H, kd⟩, kb⟩ := I
  refine ctg_of (e_ofC (d := d) w kd.1 kd.2.2.1) (fun r m1 h => ?_) (fun m1 h => ?_)
  · obtain ⟨w1, f1, z, e, rfl⟩ := h
    exact ⟨z, rfl, 0, rfl, og_of I1 kd kb w1.l (((Fx.rf (S := RS [14, 51])).tr f1 (RS_sub rfl)).l rfl) (Or.inl ⟨z, e, rfl, ul_eq⟩)⟩
  · obtain ⟨w1, f1, e⟩ := h
    exact ⟨1, rfl, og_of I1 kd kb w1 ((Fx.rf (S := RS [14, 51])).tr f1 (RS_sub rfl)) (Or.inr ⟨e, rfl⟩)⟩
theorem o_row : O_row ad d (InvK (KX KG kq)) (InvK (KX KG (kq + 1))) := fun a m I => by
  have hx : CtX ad μX11_row (d + 299) [.ref (ad 0), .int a] m (fun r m' => m' = m ∧ ∃ v : Int64, r = some (.long v)) (fun m' => m' = m) := by
    have t := I.1.at (a := 0) (k := 18) rfl
    refine v_X11_row (d := d + 293) ⟨fun _ => rfl, fun c => ⟨fun c2 => ⟨?_, rfl, _, rfl⟩, fun _ => rfl⟩⟩
    have c' := y_nltr (n := 0) rfl c
    have c2' := z_lt c2
    exact vpi (by omega) (by omega)
  have fin : ∀ m1, WT m1 → Fx (RS [51]) m m1 → Ct ad μX12_row (d + 300) [.ref (ad 187), .int a] m1 (fun r m3 => (∃ w : Int64, r = some (.long w)) ∧ InvK (KX KG (kq + 1)) m3) := by
    intro m1 w1 f1
    refine (s_X12_row w1).to ?_
    rintro _ m2 ⟨w2, f2, v2, rfl⟩
    exact ⟨⟨_, rfl⟩, w2, I.2.1.f2 f1 f2 rfl rfl, KX.kd kq KG.kd f1 f2 I.2.2 rfl rfl⟩
  refine ctg_row hx (fun r m1 h => ?_) (fun m1 h => ?_)
  · obtain ⟨rfl, v, rfl⟩ := h
    exact ⟨v, rfl, ⟨_, rfl⟩, fin _ I.1.l ((Fx.rf (S := RS [51])).l rfl)⟩
  · subst h
    exact ⟨⟨_, rfl⟩, fin _ I.1 Fx.rf⟩
theorem all_ops (hc : kq < 1000) : OPS ad d (InvK (KX KG kq)) (InvK (KX KG (kq + 1))) := ⟨o_sign, o_end, o_league hc, o_rule, o_plan, o_skill, o_of, o_law, o_sheet, o_ill, o_swap, o_circle, o_game, o_odds, o_play, o_undo, o_judge, o_rounds, o_beats, o_kings, o_master, o_table, o_spread, o_rest, o_mean, o_soon, o_wins, o_hopes, o_top, o_quick, o_best, o_even, o_all, o_next, o_seen, o_found, o_prize, o_pays, o_laws, o_seed, o_keep, o_again, o_count, o_row, fun _ I => ⟨I.1, I.2.1, KX.kd kq KG.kd (Fx.rf (S := RS [])) (Fx.rf (S := RS [])) I.2.2 rfl rfl⟩⟩
end OPW
end
section
/-! THE START: the new objects -/
section STA
set_option maxRecDepth 100000 in
set_option maxHeartbeats 4000000 in
theorem wt0_1 (a k : Nat) (lo hi : Int) (e : TY a k = some (lo, hi)) : lo ≤ (m0.1 a k).toInt ∧ (m0.1 a k).toInt ≤ hi := by
  unfold TY at e
  by_cases h : a < 146
  · rw [if_pos h] at e
    by_cases h : a < 135
    · rw [if_pos h] at e
      by_cases h : a < 10
      · rw [if_pos h] at e
        by_cases h : a = 0
        · rw [if_pos h] at e
          subst h
          by_cases hk : k = 15
          · rw [if_pos hk] at e
            subst hk
            cases e
            decide +kernel
          · rw [if_neg hk] at e
            by_cases hk : k = 18
            · rw [if_pos hk] at e
              subst hk
              cases e
              decide +kernel
            · rw [if_neg hk] at e
              cases e
        · rw [if_neg h] at e
          by_cases h : a = 1
          · rw [if_pos h] at e
            subst h
            by_cases hk : k = 1
            · rw [if_pos hk] at e
              subst hk
              cases e
              decide +kernel
            · rw [if_neg hk] at e
              cases e
          · rw [if_neg h] at e
            by_cases h : a = 3
            · rw [if_pos h] at e
              subst h
              by_cases hk : k = 3
              · rw [if_pos hk] at e
                subst hk
                cases e
                decide +kernel
              · rw [if_neg hk] at e
                by_cases hk : k = 4
                · rw [if_pos hk] at e
                  subst hk
                  cases e
                  decide +kernel
                · rw [if_neg hk] at e
                  cases e
            · rw [if_neg h] at e
              by_cases h : a = 5
              · rw [if_pos h] at e
                subst h
                by_cases hk : k = 4
                · rw [if_pos hk] at e
                  subst hk
                  cases e
                  decide +kernel
                · rw [if_neg hk] at e
                  by_cases hk : k = 5
                  · rw [if_pos hk] at e
                    subst hk
                    cases e
                    decide +kernel
                  · rw [if_neg hk] at e
                    by_cases hk : k = 6
                    · rw [if_pos hk] at e
                      subst hk
                      cases e
                      decide +kernel
                    · rw [if_neg hk] at e
                      cases e
              · rw [if_neg h] at e
                cases e
      · rw [if_neg h] at e
        by_cases h : a = 10
        · rw [if_pos h] at e
          subst h
          by_cases hk : k = 4
          · rw [if_pos hk] at e
            subst hk
            cases e
            decide +kernel
          · rw [if_neg hk] at e
            by_cases hk : k = 5
            · rw [if_pos hk] at e
              subst hk
              cases e
              decide +kernel
            · rw [if_neg hk] at e
              by_cases hk : k = 6
              · rw [if_pos hk] at e
                subst hk
                cases e
                decide +kernel
              · rw [if_neg hk] at e
                cases e
        · rw [if_neg h] at e
          by_cases h : a = 15
          · rw [if_pos h] at e
            subst h
            by_cases hk : k = 1
            · rw [if_pos hk] at e
              subst hk
              cases e
              decide +kernel
            · rw [if_neg hk] at e
              by_cases hk : k = 2
              · rw [if_pos hk] at e
                subst hk
                cases e
                decide +kernel
              · rw [if_neg hk] at e
                cases e
          · rw [if_neg h] at e
            by_cases h : a = 31
            · rw [if_pos h] at e
              subst h
              by_cases hk : k = 1
              · rw [if_pos hk] at e
                subst hk
                cases e
                decide +kernel
              · rw [if_neg hk] at e
                by_cases hk : k = 2
                · rw [if_pos hk] at e
                  subst hk
                  cases e
                  decide +kernel
                · rw [if_neg hk] at e
                  cases e
            · rw [if_neg h] at e
              by_cases h : a = 134
              · rw [if_pos h] at e
                subst h
                by_cases hk : k = 5
                · rw [if_pos hk] at e
                  subst hk
                  cases e
                  decide +kernel
                · rw [if_neg hk] at e
                  by_cases hk : k = 6
                  · rw [if_pos hk] at e
                    subst hk
                    cases e
                    decide +kernel
                  · rw [if_neg hk] at e
                    cases e
              · rw [if_neg h] at e
                cases e
    · rw [if_neg h] at e
      by_cases h : a < 140
      · rw [if_pos h] at e
        by_cases h : a = 135
        · rw [if_pos h] at e
          subst h
          cases e
          exact (by decide : (0 : Int) ≤ (0 : Int32).toInt ∧ (0 : Int32).toInt ≤ (7 : Int))
        · rw [if_neg h] at e
          by_cases h : a = 136
          · rw [if_pos h] at e
            subst h
            cases e
            exact (by decide : (0 : Int) ≤ (0 : Int32).toInt ∧ (0 : Int32).toInt ≤ (7 : Int))
          · rw [if_neg h] at e
            by_cases h : a = 138
            · rw [if_pos h] at e
              subst h
              cases e
              exact (by decide : (0 : Int) ≤ (0 : Int32).toInt ∧ (0 : Int32).toInt ≤ (48 : Int))
            · rw [if_neg h] at e
              by_cases h : a = 139
              · rw [if_pos h] at e
                subst h
                cases e
                exact (by decide : (0 : Int) ≤ (0 : Int32).toInt ∧ (0 : Int32).toInt ≤ (7 : Int))
              · rw [if_neg h] at e
                cases e
      · rw [if_neg h] at e
        by_cases h : a < 142
        · rw [if_pos h] at e
          by_cases h : a = 140
          · rw [if_pos h] at e
            subst h
            by_cases hk : k = 5
            · rw [if_pos hk] at e
              subst hk
              cases e
              decide +kernel
            · rw [if_neg hk] at e
              by_cases hk : k = 6
              · rw [if_pos hk] at e
                subst hk
                cases e
                decide +kernel
              · rw [if_neg hk] at e
                cases e
          · rw [if_neg h] at e
            by_cases h : a = 141
            · rw [if_pos h] at e
              subst h
              cases e
              exact (by decide : (0 : Int) ≤ (0 : Int32).toInt ∧ (0 : Int32).toInt ≤ (7 : Int))
            · rw [if_neg h] at e
              cases e
        · rw [if_neg h] at e
          by_cases h : a = 142
          · rw [if_pos h] at e
            subst h
            cases e
            exact (by decide : (0 : Int) ≤ (0 : Int32).toInt ∧ (0 : Int32).toInt ≤ (7 : Int))
          · rw [if_neg h] at e
            by_cases h : a = 144
            · rw [if_pos h] at e
              subst h
              cases e
              exact (by decide : (0 : Int) ≤ (0 : Int32).toInt ∧ (0 : Int32).toInt ≤ (48 : Int))
            · rw [if_neg h] at e
              by_cases h : a = 145
              · rw [if_pos h] at e
                subst h
                cases e
                exact (by decide : (0 : Int) ≤ (0 : Int32).toInt ∧ (0 : Int32).toInt ≤ (7 : Int))
              · rw [if_neg h] at e
                cases e
  · rw [if_neg h] at e
    by_cases h : a < 166
    · rw [if_pos h] at e
      by_cases h : a < 155
      · rw [if_pos h] at e
        by_cases h : a = 146
        · rw [if_pos h] at e
          subst h
          cases e
          exact (by decide : (0 : Int) ≤ (0 : Int32).toInt ∧ (0 : Int32).toInt ≤ (7 : Int))
        · rw [if_neg h] at e
          by_cases h : a = 147
          · rw [if_pos h] at e
            subst h
            cases e
            exact (by decide : (0 : Int) ≤ (0 : Int32).toInt ∧ (0 : Int32).toInt ≤ (7 : Int))
          · rw [if_neg h] at e
            by_cases h : a = 151
            · rw [if_pos h] at e
              subst h
              by_cases hk : k = 4
              · rw [if_pos hk] at e
                subst hk
                cases e
                decide +kernel
              · rw [if_neg hk] at e
                cases e
            · rw [if_neg h] at e
              by_cases h : a = 154
              · rw [if_pos h] at e
                subst h
                cases e
                exact (by decide : (0 : Int) ≤ (0 : Int32).toInt ∧ (0 : Int32).toInt ≤ (3000 : Int))
              · rw [if_neg h] at e
                cases e
      · rw [if_neg h] at e
        by_cases h : a = 155
        · rw [if_pos h] at e
          subst h
          cases e
          exact (by decide : (0 : Int) ≤ (0 : Int32).toInt ∧ (0 : Int32).toInt ≤ (8191 : Int))
        · rw [if_neg h] at e
          by_cases h : a = 156
          · rw [if_pos h] at e
            subst h
            by_cases hk : k = 6
            · rw [if_pos hk] at e
              subst hk
              cases e
              decide +kernel
            · rw [if_neg hk] at e
              cases e
          · rw [if_neg h] at e
            by_cases h : a = 163
            · rw [if_pos h] at e
              subst h
              cases e
              exact (by decide : (-1 : Int) ≤ (0 : Int32).toInt ∧ (0 : Int32).toInt ≤ (2999 : Int))
            · rw [if_neg h] at e
              by_cases h : a = 165
              · rw [if_pos h] at e
                subst h
                cases e
                exact ⟨(by decide : (0 : Int) ≤ (0 : Int32).toInt), Int.natCast_nonneg k⟩
              · rw [if_neg h] at e
                cases e
    · rw [if_neg h] at e
      by_cases h : a < 203
      · rw [if_pos h] at e
        by_cases h : a = 166
        · rw [if_pos h] at e
          subst h
          by_cases hk : k = 3
          · rw [if_pos hk] at e
            subst hk
            cases e
            decide +kernel
          · rw [if_neg hk] at e
            cases e
        · rw [if_neg h] at e
          by_cases h : a = 187
          · rw [if_pos h] at e
            subst h
            by_cases hk : k = 0
            · rw [if_pos hk] at e
              subst hk
              cases e
              decide +kernel
            · rw [if_neg hk] at e
              by_cases hk : k = 1
              · rw [if_pos hk] at e
                subst hk
                cases e
                decide +kernel
              · rw [if_neg hk] at e
                by_cases hk : k = 10
                · rw [if_pos hk] at e
                  subst hk
                  cases e
                  decide +kernel
                · rw [if_neg hk] at e
                  by_cases hk : k = 11
                  · rw [if_pos hk] at e
                    subst hk
                    cases e
                    decide +kernel
                  · rw [if_neg hk] at e
                    by_cases hk : k = 14
                    · rw [if_pos hk] at e
                      subst hk
                      cases e
                      decide +kernel
                    · rw [if_neg hk] at e
                      by_cases hk : k = 16
                      · rw [if_pos hk] at e
                        subst hk
                        cases e
                        decide +kernel
                      · rw [if_neg hk] at e
                        by_cases hk : k = 27
                        · rw [if_pos hk] at e
                          subst hk
                          cases e
                          decide +kernel
                        · rw [if_neg hk] at e
                          by_cases hk : k = 28
                          · rw [if_pos hk] at e
                            subst hk
                            cases e
                            decide +kernel
                          · rw [if_neg hk] at e
                            by_cases hk : k = 30
                            · rw [if_pos hk] at e
                              subst hk
                              cases e
                              decide +kernel
                            · rw [if_neg hk] at e
                              by_cases hk : k = 43
                              · rw [if_pos hk] at e
                                subst hk
                                cases e
                                decide +kernel
                              · rw [if_neg hk] at e
                                by_cases hk : k = 45
                                · rw [if_pos hk] at e
                                  subst hk
                                  cases e
                                  decide +kernel
                                · rw [if_neg hk] at e
                                  by_cases hk : k = 46
                                  · rw [if_pos hk] at e
                                    subst hk
                                    cases e
                                    decide +kernel
                                  · rw [if_neg hk] at e
                                    by_cases hk : k = 52
                                    · rw [if_pos hk] at e
                                      subst hk
                                      cases e
                                      decide +kernel
                                    · rw [if_neg hk] at e
                                      cases e
          · rw [if_neg h] at e
            by_cases h : a = 194
            · rw [if_pos h] at e
              subst h
              by_cases hk : k % 4 < 2
              · rw [if_pos hk] at e
                cases e
                exact (by decide : (0 : Int) ≤ (0 : Int32).toInt ∧ (0 : Int32).toInt ≤ (7 : Int))
              · rw [if_neg hk] at e
                cases e
            · rw [if_neg h] at e
              by_cases h : a = 199
              · rw [if_pos h] at e
                subst h
                by_cases hk : k % 4 < 2
                · rw [if_pos hk] at e
                  cases e
                  exact (by decide : (0 : Int) ≤ (0 : Int32).toInt ∧ (0 : Int32).toInt ≤ (7 : Int))
                · rw [if_neg hk] at e
                  cases e
              · rw [if_neg h] at e
                cases e
      · rw [if_neg h] at e
        by_cases h : a < 208
        · rw [if_pos h] at e
          by_cases h : a = 203
          · rw [if_pos h] at e
            subst h
            cases e
            exact (by decide : (0 : Int) ≤ (0 : Int32).toInt ∧ (0 : Int32).toInt ≤ (8 : Int))
          · rw [if_neg h] at e
            by_cases h : a = 207
            · rw [if_pos h] at e
              subst h
              cases e
              exact ⟨(by decide : (0 : Int) ≤ (0 : Int32).toInt), Int.natCast_nonneg k⟩
            · rw [if_neg h] at e
              cases e
        · rw [if_neg h] at e
          by_cases h : a = 208
          · rw [if_pos h] at e
            subst h
            cases e
            exact (by decide : (-1 : Int) ≤ (0 : Int32).toInt ∧ (0 : Int32).toInt ≤ (2999 : Int))
          · rw [if_neg h] at e
            by_cases h : a = 210
            · rw [if_pos h] at e
              subst h
              cases e
              exact (by decide : (0 : Int) ≤ (0 : Int32).toInt ∧ (0 : Int32).toInt ≤ (3000 : Int))
            · rw [if_neg h] at e
              by_cases h : a = 213
              · rw [if_pos h] at e
                subst h
                by_cases hk : k % 3 < 2
                · rw [if_pos hk] at e
                  cases e
                  exact (by decide : (0 : Int) ≤ (0 : Int32).toInt ∧ (0 : Int32).toInt ≤ (7 : Int))
                · rw [if_neg hk] at e
                  cases e
              · rw [if_neg h] at e
                cases e
theorem SS_r33 : SS 33 6 := by
  refine ⟨St_33, fun j k hj => ?_⟩
  have h : j = 0 ∨ j = 1 ∨ j = 2 ∨ j = 3 ∨ j = 4 := by omega
  rcases h with rfl | rfl | rfl | rfl | rfl
  all_goals exact ⟨rfl, rfl⟩
theorem SS_r38 : SS 38 6 := by
  refine ⟨St_38, fun j k hj => ?_⟩
  have h : j = 0 ∨ j = 1 ∨ j = 2 ∨ j = 3 ∨ j = 4 := by omega
  rcases h with rfl | rfl | rfl | rfl | rfl
  all_goals exact ⟨rfl, rfl⟩
theorem SS_r43 : SS 43 6 := by
  refine ⟨St_43, fun j k hj => ?_⟩
  have h : j = 0 ∨ j = 1 ∨ j = 2 ∨ j = 3 ∨ j = 4 := by omega
  rcases h with rfl | rfl | rfl | rfl | rfl
  all_goals exact ⟨rfl, rfl⟩
theorem SS_r48 : SS 48 6 := by
  refine ⟨St_48, fun j k hj => ?_⟩
  have h : j = 0 ∨ j = 1 ∨ j = 2 ∨ j = 3 ∨ j = 4 := by omega
  rcases h with rfl | rfl | rfl | rfl | rfl
  all_goals exact ⟨rfl, rfl⟩
theorem SS_r53 : SS 53 6 := by
  refine ⟨St_53, fun j k hj => ?_⟩
  have h : j = 0 ∨ j = 1 ∨ j = 2 ∨ j = 3 ∨ j = 4 := by omega
  rcases h with rfl | rfl | rfl | rfl | rfl
  all_goals exact ⟨rfl, rfl⟩
theorem SS_r58 : SS 58 6 := by
  refine ⟨St_58, fun j k hj => ?_⟩
  have h : j = 0 ∨ j = 1 ∨ j = 2 ∨ j = 3 ∨ j = 4 := by omega
  rcases h with rfl | rfl | rfl | rfl | rfl
  all_goals exact ⟨rfl, rfl⟩
theorem SS_r63 : SS 63 6 := by
  refine ⟨St_63, fun j k hj => ?_⟩
  have h : j = 0 ∨ j = 1 ∨ j = 2 ∨ j = 3 ∨ j = 4 := by omega
  rcases h with rfl | rfl | rfl | rfl | rfl
  all_goals exact ⟨rfl, rfl⟩
theorem SS_r68 : SS 68 6 := by
  refine ⟨St_68, fun j k hj => ?_⟩
  have h : j = 0 ∨ j = 1 ∨ j = 2 ∨ j = 3 ∨ j = 4 := by omega
  rcases h with rfl | rfl | rfl | rfl | rfl
  all_goals exact ⟨rfl, rfl⟩
theorem SS_r73 : SS 73 6 := by
  refine ⟨St_73, fun j k hj => ?_⟩
  have h : j = 0 ∨ j = 1 ∨ j = 2 ∨ j = 3 ∨ j = 4 := by omega
  rcases h with rfl | rfl | rfl | rfl | rfl
  all_goals exact ⟨rfl, rfl⟩
theorem SS_r78 : SS 78 6 := by
  refine ⟨St_78, fun j k hj => ?_⟩
  have h : j = 0 ∨ j = 1 ∨ j = 2 ∨ j = 3 ∨ j = 4 := by omega
  rcases h with rfl | rfl | rfl | rfl | rfl
  all_goals exact ⟨rfl, rfl⟩
theorem SS_r83 : SS 83 6 := by
  refine ⟨St_83, fun j k hj => ?_⟩
  have h : j = 0 ∨ j = 1 ∨ j = 2 ∨ j = 3 ∨ j = 4 := by omega
  rcases h with rfl | rfl | rfl | rfl | rfl
  all_goals exact ⟨rfl, rfl⟩
theorem SS_r88 : SS 88 6 := by
  refine ⟨St_88, fun j k hj => ?_⟩
  have h : j = 0 ∨ j = 1 ∨ j = 2 ∨ j = 3 ∨ j = 4 := by omega
  rcases h with rfl | rfl | rfl | rfl | rfl
  all_goals exact ⟨rfl, rfl⟩
theorem SS_r93 : SS 93 6 := by
  refine ⟨St_93, fun j k hj => ?_⟩
  have h : j = 0 ∨ j = 1 ∨ j = 2 ∨ j = 3 ∨ j = 4 := by omega
  rcases h with rfl | rfl | rfl | rfl | rfl
  all_goals exact ⟨rfl, rfl⟩
theorem SS_r98 : SS 98 6 := by
  refine ⟨St_98, fun j k hj => ?_⟩
  have h : j = 0 ∨ j = 1 ∨ j = 2 ∨ j = 3 ∨ j = 4 := by omega
  rcases h with rfl | rfl | rfl | rfl | rfl
  all_goals exact ⟨rfl, rfl⟩
theorem SS_r103 : SS 103 6 := by
  refine ⟨St_103, fun j k hj => ?_⟩
  have h : j = 0 ∨ j = 1 ∨ j = 2 ∨ j = 3 ∨ j = 4 := by omega
  rcases h with rfl | rfl | rfl | rfl | rfl
  all_goals exact ⟨rfl, rfl⟩
theorem SS_r108 : SS 108 6 := by
  refine ⟨St_108, fun j k hj => ?_⟩
  have h : j = 0 ∨ j = 1 ∨ j = 2 ∨ j = 3 ∨ j = 4 := by omega
  rcases h with rfl | rfl | rfl | rfl | rfl
  all_goals exact ⟨rfl, rfl⟩
theorem SS_r113 : SS 113 6 := by
  refine ⟨St_113, fun j k hj => ?_⟩
  have h : j = 0 ∨ j = 1 ∨ j = 2 ∨ j = 3 ∨ j = 4 := by omega
  rcases h with rfl | rfl | rfl | rfl | rfl
  all_goals exact ⟨rfl, rfl⟩
theorem SS_r118 : SS 118 6 := by
  refine ⟨St_118, fun j k hj => ?_⟩
  have h : j = 0 ∨ j = 1 ∨ j = 2 ∨ j = 3 ∨ j = 4 := by omega
  rcases h with rfl | rfl | rfl | rfl | rfl
  all_goals exact ⟨rfl, rfl⟩
theorem SS_r123 : SS 123 6 := by
  refine ⟨St_123, fun j k hj => ?_⟩
  have h : j = 0 ∨ j = 1 ∨ j = 2 ∨ j = 3 ∨ j = 4 := by omega
  rcases h with rfl | rfl | rfl | rfl | rfl
  all_goals exact ⟨rfl, rfl⟩
theorem SS_r128 : SS 128 6 := by
  refine ⟨St_128, fun j k hj => ?_⟩
  have h : j = 0 ∨ j = 1 ∨ j = 2 ∨ j = 3 ∨ j = 4 := by omega
  rcases h with rfl | rfl | rfl | rfl | rfl
  all_goals exact ⟨rfl, rfl⟩
theorem SS_rn0 : ∀ k, k < 20 → SS (33 + 5 * k) 6 := by
  intro k hk
  have h : k = 0 ∨ k = 1 ∨ k = 2 ∨ k = 3 ∨ k = 4 ∨ k = 5 ∨ k = 6 ∨ k = 7 ∨ k = 8 ∨ k = 9 ∨ k = 10 ∨ k = 11 ∨ k = 12 ∨ k = 13 ∨ k = 14 ∨ k = 15 ∨ k = 16 ∨ k = 17 ∨ k = 18 ∨ k = 19 := by omega
  rcases h with rfl | rfl | rfl | rfl | rfl | rfl | rfl | rfl | rfl | rfl | rfl | rfl | rfl | rfl | rfl | rfl | rfl | rfl | rfl | rfl
  · exact SS_r33
  · exact SS_r38
  · exact SS_r43
  · exact SS_r48
  · exact SS_r53
  · exact SS_r58
  · exact SS_r63
  · exact SS_r68
  · exact SS_r73
  · exact SS_r78
  · exact SS_r83
  · exact SS_r88
  · exact SS_r93
  · exact SS_r98
  · exact SS_r103
  · exact SS_r108
  · exact SS_r113
  · exact SS_r118
  · exact SS_r123
  · exact SS_r128
set_option maxRecDepth 100000 in
theorem ring0 : ∀ k : Fin 20, m0.2.2 32 k.val = some (33 + 5 * k.val) := by decide +kernel
set_option maxRecDepth 100000 in
theorem kept0 : ∀ k : Fin 2, m0.2.2 133 k.val = some (173 + 7 * k.val) := by decide +kernel
set_option maxRecDepth 100000 in
theorem rf0 : RF m0.2.2 := by
  refine ⟨⟨5, by decide +kernel, Or.inl rfl⟩, ⟨10, by decide +kernel, Or.inr rfl⟩, ⟨134, by decide +kernel, Or.inl rfl⟩, ⟨140, by decide +kernel, Or.inr rfl⟩, fun k hk => ⟨33 + 5 * k, ring0 ⟨k, hk⟩, SS_rn0 k hk⟩, fun k hk => ⟨173 + 7 * k, kept0 ⟨k, hk⟩, ?_⟩, fun k hk => ring0 ⟨k, hk⟩, fun k hk => kept0 ⟨k, hk⟩⟩
  omega
set_option maxRecDepth 100000 in
theorem iv_m0 : IV m0 := by
  have z : (m0.1 1 1).toInt = 0 := by decide +kernel
  refine ⟨Or.inl ?_, ⟨?_, fun k hk => absurd hk (by omega)⟩, ?_, ?_, ?_⟩
  · decide +kernel
  · decide +kernel
  · decide +kernel
  · decide +kernel
  · decide +kernel
set_option maxRecDepth 100000 in
theorem kb_m0 : KB 0 m0 := by
  have l0 : ∀ k : Fin 5, m0.1 4 k.val = m0.1 193 k.val := by decide +kernel
  have q1 : ∀ i : Fin 2, m0.1 (173 + 7 * i.val) 4 = 0 := by decide +kernel
  have q2 : ∀ i : Fin 2, m0.1 215 i.val = 0 := by decide +kernel
  have q3 : ∀ i : Fin 2, m0.1 216 i.val = 0 := by decide +kernel
  refine ⟨⟨134, 140, ⟨by decide +kernel, by decide +kernel, Or.inl ⟨rfl, rfl⟩⟩, 0, 0, 0, (fun _ => 0), by decide +kernel, by decide, by decide +kernel, by decide +kernel, by decide +kernel, by decide +kernel, by decide, by decide, fun _ => rfl, fun j hj => absurd hj (Nat.not_lt_zero j), ⟨rfl, fun ρ hρ => by omega, Nat.le_refl _⟩, fun ρ hρ => absurd hρ (Nat.not_lt_zero ρ)⟩, fun k hk => l0 ⟨k, hk⟩, 0, Nat.le_refl _, by decide +kernel, fun i hi => ⟨⟨0, Nat.le_refl _, q3 ⟨i, hi⟩⟩, ⟨fun h => absurd (q1 ⟨i, hi⟩) h, fun h => absurd (q2 ⟨i, hi⟩) h.1⟩, fun h => absurd (q1 ⟨i, hi⟩) h⟩⟩
set_option maxRecDepth 100000 in
theorem ruk_m0 : RuK m0 := ⟨5, 10, ⟨by decide +kernel, by decide +kernel, Or.inl ⟨rfl, rfl⟩⟩, [], 0, ⟨by decide +kernel, fun i hi => absurd hi (Nat.not_lt_zero i), by decide⟩, by decide +kernel, by decide, Or.inl ⟨rfl, rfl⟩⟩
set_option maxRecDepth 100000 in
theorem nI_small {x : Int32} (h0 : 0 ≤ x.toInt) : x = nI x.toNatClampNeg := by
  obtain ⟨j, hj, rfl⟩ := zn_of h0
  rw [nI_clamp hj]
set_option maxRecDepth 100000 in
theorem kg_m0 : KG m0 := by
  have z22 : ∀ k : Fin 32, m0.1 22 k.val = 0 := by decide +kernel
  have ar : m0.1 3 4 = m0.1 187 0 := by decide +kernel
  have ar0 : 0 ≤ (m0.1 187 0).toInt ∧ (m0.1 187 0).toInt ≤ 4 := by decide +kernel
  have n0 : m0.1 3 3 = nI 0 := by decide +kernel
  have n1 : m0.1 187 1 = nI 0 := by decide +kernel
  have lu : m0.1 187 8 = m0.1 21 4 := by decide +kernel
  have lw : ∀ k : Fin 5, m0.1 193 k.val = m0.1 4 k.val := by decide +kernel
  have il : m0.1 3 5 = 0 := by decide +kernel
  have u1 : m0.1 31 1 = 0 := by decide +kernel
  have u2 : m0.1 187 30 = 0 := by decide +kernel
  have p1 : ∀ i : Fin 2, m0.1 (173 + 7 * i.val) 4 = 0 := by decide +kernel
  have x1 : m0.1 0 11 = nI 0 := by decide +kernel
  have x2 : m0.1 187 12 = nI 0 := by decide +kernel
  have x3 : m0.1 187 11 = nI 0 := by decide +kernel
  have e0 : m0.1 187 0 = nI (m0.1 187 0).toNatClampNeg := nI_small ar0.1
  have e4 : (m0.1 187 0).toNatClampNeg ≤ 4 := by
    have := tn ar0.1
    omega
  obtain ⟨P, Q, hR, cl, z, hX, h27, hz, hv⟩ := ruk_m0
  refine ⟨(m0.1 22, m0.1 23, m0.1 24, m0.1 25, m0.1 21 4), (0, (m0.1 187 0).toNatClampNeg, m0.1 4, (fun _ => false), m0.1 200, z), [], ⟨fun _ _ => rfl, fun _ _ => rfl, fun _ _ => rfl, fun _ _ => rfl, rfl⟩, ⟨fun k hk => absurd hk (Nat.not_lt_zero k), fun k hk => absurd hk (Nat.not_lt_zero k), fun k hk => absurd hk (Nat.not_lt_zero k), fun k hk => absurd hk (Nat.not_lt_zero k), lu⟩, ⟨n0, ar.trans e0, Nat.zero_le _, e4, fun _ _ => rfl, ⟨fun s hs => ?_, fun _ _ => rfl⟩, P, Q, hR, cl, hX, hv⟩, ⟨n1, e0, Nat.zero_le _, e4, fun k hk => lw ⟨k, hk⟩, fun s hs => absurd hs (Nat.not_lt_zero s), h27, hz, fun _ _ => rfl⟩, UnC.wt ⟨wt0_1, rf0⟩ u1, UnM.wt u2, fun k _ h2 => z22 ⟨k, h2⟩, fun j hj => absurd hj (Nat.not_lt_zero j), fun i hi h => absurd (p1 ⟨i, hi⟩) h, ⟨0, 0, x1, x2, x3, by decide, Or.inl rfl⟩⟩
  rw [il]
  exact b_0 s
theorem inv_m0 : InvK (KX KG 0) m0 := ⟨⟨wt0_1, rf0⟩, iv_m0, kg_m0, kb_m0⟩
theorem law_run {ad : Nat → Nat} {sb Ls : Nat} {xs : Nat → Int32} (hL : Ls ≤ 3072) : AWl LAY ad (EX (SX sb Ls xs) 513 3078 LAY) μL_law (1747 + 301) (fun v _ => v = some (.int 1)) 23 [(0, .ref sb), (1, .ref (ad 0)), (2, .ref (ad 187)), (3, .ref (ad 217)), (4, .int 0)] [] m0 := by
  have := law_loop (ad := ad) (sb := sb) (xs := xs) (d := 1747) (n0 := Ls / 6) (Inv := fun c => InvK (KX KG c)) hL rfl (fun k hk => all_ops (by omega)) (Ls / 6) 0 m0 (by omega) inv_m0
  exact aw_drop (by omega) (by omega) this
end STA
end
