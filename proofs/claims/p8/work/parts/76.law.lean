/-! THE LAW'S OWN: the script, that no cell of the world is -/
def SX (sb Ls : Nat) (xs : Nat → Int32) : Launch → State → (Nat → Prop) → Prop := fun l s A => va_X sb Ls xs s s.heap ∧ sb < s.heap.size ∧ ¬ A sb ∧ l.stackTraces = false ∧ XT s A
abbrev EX (X : Launch → State → (Nat → Prop) → Prop) (kc ks : Nat) (lq : List Ent) : EB := (fun _ l _ _ s _ _ _ _ _ _ _ _ _ A _ => X l s A, kc, ks, lq)
section AWS
variable {lay lq : List Ent} {ad : Nat → Nat} {X : Launch → State → (Nat → Prop) → Prop} {bs n kc ks kc' ks' sb Ls : Nat} {xs : Nat → Int32} {μ : MI} {d : Nat} {Q : Option Value → Wm → Prop} {pc : Nat} {L : List (Nat × Value)} {rest st : List Value} {m : Wm}
theorem aw_sld {i : Int32} (hd : decode μ.2.1 pc = .ok (.iaload, 1)) (hi : vp_in i Ls) (k : AWl lay ad (EX (SX sb Ls xs) kc ks lq) μ d Q (pc + 1) L (.int (xs i.toNatClampNeg) :: rest) m) : AWl lay ad (EX (SX sb Ls xs) kc ks lq) μ d Q pc L (.int i :: .ref sb :: rest) m := fun p l e R s mt args below meth c H locs cs sl G cA A ls Qz C hP hD hS hl => va_sld C.1.1 C.1.2.1 C.2.2.2.1.1.1 C.2.2.2.1.1.2.1 C.2.2.2.1.1.2.2.1 hS hi hd (k p l e R s mt args below meth c H locs cs sl G cA A ls Qz C hP hD hS hl)
theorem aw_slen (hd : decode μ.2.1 pc = .ok (.arraylength, 1)) (k : AWl lay ad (EX (SX sb Ls xs) kc ks lq) μ d Q (pc + 1) L (.int (Int32.ofNat Ls) :: rest) m) : AWl lay ad (EX (SX sb Ls xs) kc ks lq) μ d Q pc L (.ref sb :: rest) m := fun p l e R s mt args below meth c H locs cs sl G cA A ls Qz C hP hD hS hl => va_slen C.1.1 C.1.2.1 C.2.2.2.1.1.1 C.2.2.2.1.1.2.1 C.2.2.2.1.1.2.2.1 hS hd (k p l e R s mt args below meth c H locs cs sl G cA A ls Qz C hP hD hS hl)
/-- less room is asked -/
theorem aw_drop (h1 : kc ≤ kc') (h2 : ks ≤ ks') (k : AWl lay ad (EX X kc ks lq) μ d Q pc L st m) : AWl lay ad (EX X kc' ks' lq) μ d Q pc L st m := by
  intro p l e R s mt args below meth c H locs cs sl G cA A ls Qz C hP hD hS hl
  obtain ⟨hr1, hr2, hr3, hr4⟩ := C.2.2.2.2.1
  have hr3 : cs + kc' ≤ R.cells := hr3
  have hr4 : sl + ks' ≤ R.slots := hr4
  exact k p l e R s mt args below meth c H locs cs sl G cA A ls Qz ⟨C.1, C.2.1, C.2.2.1, C.2.2.2.1, ⟨hr1, hr2, by show cs + kc ≤ R.cells; omega, by show sl + ks ≤ R.slots; omega⟩, C.2.2.2.2.2⟩ hP hD hS hl
/-- the same cells, told by another layout; nothing more is made -/
theorem aw_lay {lay' : List Ent} (h : ∀ cA, cellsOf lay ad cA m = cellsOf lay' ad cA m) (k : AWl lay' ad (EX X kc ks lq) μ d Q pc L st m) : AWl lay ad (EK X bs n kc ks lq) μ d Q pc L st m :=
  fun p l e R s mt args below meth c H locs cs sl G cA A ls Qz C hP hD hS hl => k p l e R s mt args below meth c H locs cs sl G cA A ls Qz ⟨C.1, C.2.1, C.2.2.1, ⟨C.2.2.2.1.1.2, C.2.2.2.1.2⟩, C.2.2.2.2.1, C.2.2.2.2.2⟩ (h cA ▸ hP) (h cA ▸ hD) hS hl
end AWS
/-- a call of the law's own two, that catch -/
def CallSG (own : String) (idx : Nat) (μ' : MI) (hh : List (Nat × Nat × Nat × Nat)) (n : Nat) : Prop := Cond.methodLink own idx μ'.1 ∈ TW ∧ Cond.static μ'.1 ∈ TW ∧ Cond.initialized μ'.1.cls ∈ TW ∧ Cond.codeWith μ'.1 μ'.2.1 μ'.2.2.1 μ'.2.2.2.2 hh ∈ TW ∧ (μ'.1.cls ≠ "java/lang/invoke/MethodHandle" ∧ μ'.1.cls ≠ "java/lang/invoke/VarHandle" ∧ (parseMethodDescriptor μ'.1.desc).map (fun d => d.parameters.length) = some n) ∧ μ'.2.2.1 ≤ 22
theorem aw_callSg {ad : Nat → Nat} {kc ks sb Ls : Nat} {xs : Nat → Int32} {μ : MI} {d : Nat} {Q : Option Value → Wm → Prop} {pc : Nat} {L : List (Nat × Value)} {rest st : List Value} {m : Wm} {idx : Nat} {μ' : MI} {hh : List (Nat × Nat × Nat × Nat)} (As : List Value) {Q' : Option Value → Wm → Prop} (hd : decode μ.2.1 pc = .ok (.invokestatic idx, 3)) (cw : CallSG μ.2.2.2.1 idx μ' hh As.length) (hst : st = As.reverse ++ rest) (hM : Ctg ad μ' hh d 1 6 As m Q') (hW : (rest.map fun v => v.category).sum ≤ 8)
    (k : ∀ v m', Q' v m' → AWl LAY ad (EX (SX sb Ls xs) kc ks LAY) μ (d + 1) Q (pc + 3) L (v.toList ++ rest) m') : AWl LAY ad (EX (SX sb Ls xs) (kc + 1) (ks + 6) LAY) μ (d + 1) Q pc L st m := by
  subst hst
  intro p l e R s mt args below meth c H locs cs sl G cA A ls Qz C hP hD hS hl
  obtain ⟨w1, w2, w4, w5, w6, w7⟩ := cw
  have hts := C.1.2.2.2.2
  obtain ⟨hr1, hr2, hr3, hr4⟩ := C.2.2.2.2.1
  have hr3 : cs + (kc + 1) ≤ R.cells := hr3
  have hr4 : sl + (ks + 6) ≤ R.slots := hr4
  obtain ⟨⟨hx1, hx2, hx3, hl0, hX⟩, hnm, hnw⟩ := C.2.2.2.1
  have hA := C.2.2.1
  have hAA : ∀ q, va_A (cellsOf LAY ad cA m) H.size q → A q := by
    intro q hq
    rcases hq with ⟨k, x, hq⟩ | hq
    · exact hD.2 k (q, x) hq
    · exact hA q (Nat.le_trans hS.1 hq)
  have hr := vx_runSW (e := e) (below := below) (meth := meth) (locs := locs) (cells := cs) (slots := sl) (g := F0 mt pc ls (As.reverse ++ rest)) (As := As) (rest := rest) (n := As.length) (hh := hh) C.1 (hM l G cA H.size hl0) ⟨⟨rfl, rfl, hr1, by show 8 + (μ'.2.2.1 + 11) + 41 * d ≤ R.locals; omega, pay_in hts (good_tbl w5), List.mem_cons_self⟩, hts _ w5, hts _ w4, ⟨w6.1, w6.2.1⟩, fun sig h => by have h2 := w6.2.2; rw [h] at h2; exact (Option.some.inj h2).symm, hts _ w1, hts _ w2⟩ ⟨fun a U g mk q => ⟨q.1, PCt.blind a U g mk ⟨q.1, q.2.1⟩ |>.2, XW_same (s := U) (U := U.calling g mk a) rfl q.2.2.1, vx_Zq.moved (u := U) (U := U.calling g mk a) (Vm.Alike.refl U.vm) q.2.2.2.1, vx_Zq.moved (u := U) (U := U.calling g mk a) (Vm.Alike.refl U.vm) q.2.2.2.2⟩, fun U hU hW' => ⟨rfl, ⟨by rw [hU], by rw [hU]; exact hP, va_K.moved hW'.alike C.2.1, hD.weaken (fun _ _ _ _ => trivial), NWs.warm hW' hnw⟩, hX.go hW' hS hU hAA⟩⟩ rfl rfl hl.1 rfl (lv_room hW) hd ⟨by omega, by omega⟩
  intro T0 hT0 X0'
  obtain ⟨v, st₀, t, T', L', h0, X', hL, e1, e2, ⟨⟨v', m', hv, hq, hp⟩, hF⟩, st⟩ := hr T0 hT0 X0'
  cases hv
  obtain ⟨k1, k2, k3⟩ := vx_keep h0 e1 hS (fun q _ h => hAA q h) hAA hL hF
  obtain ⟨t2, a1, b1⟩ := k v m' hq p l e R s mt args below meth c T'.heap (locs ++ L') (cs + 1) (sl + 6) G cA A ls Qz ⟨C.1, C.2.1, C.2.2.1, ⟨⟨hx1, hx2, hx3, hl0, hX⟩, hnm, hnw⟩, ⟨hr1, hr2, by show cs + 1 + kc ≤ R.cells; omega, by show sl + 6 + ks ≤ R.slots; omega⟩, C.2.2.2.2.2⟩ (by rw [e1]; exact hp) (cells_D hD) k3 hl T' rfl X'
  exact ⟨t2, st t2 a1, b1⟩
theorem wx_50 : Cond.codeWith yL_of cL_of 5 (some .int) hL_of ∈ TW := tw (List.mem_of_getElem? (i := 1180) (by decide +kernel)) (by decide +kernel)
theorem wx_207 : Cond.codeWith yL_row cL_row 4 (some .int) hL_row ∈ TW := tw (List.mem_of_getElem? (i := 1250) (by decide +kernel)) (by decide +kernel)
theorem wx_51 : Cond.methodLink RL 50 yL_of ∈ TW := tw (by decide +kernel) (by decide +kernel)
theorem wx_52 : Cond.static yL_of ∈ TW := tw (by decide +kernel) (by decide +kernel)
theorem wx_53 : Cond.initialized RL ∈ TW := tw (by decide +kernel) (by decide +kernel)
theorem wx_208 : Cond.methodLink RL 207 yL_row ∈ TW := tw (by decide +kernel) (by decide +kernel)
theorem wx_209 : Cond.static yL_row ∈ TW := tw (by decide +kernel) (by decide +kernel)
theorem k_L_50 : CallSG RL 50 μL_of hL_of 4 := ⟨wx_51, wx_52, wx_53, wx_50, ⟨by decide, by decide, by decide +kernel⟩, by decide⟩
theorem k_L_207 : CallSG RL 207 μL_row hL_row 3 := ⟨wx_208, wx_209, wx_53, wx_207, ⟨by decide, by decide, by decide +kernel⟩, by decide⟩
abbrev μL_law : MI := (yL_law, cL_law, 8, RL, some .boolean)
set_option maxRecDepth 100000 in
set_option maxHeartbeats 4000000 in
theorem g_L_law_23 {ad : Nat → Nat} {sb Ls kc ks : Nat} {xs : Nat → Int32} {d : Nat} {Q : Option Value → Wm → Prop} {m : Wm} {x4 : Int32} (h : ((((Int32.ofNat Ls) - (6 : Int32)) < x4 → Q (some (.int (1 : Int32))) m) ∧ (¬ ((Int32.ofNat Ls) - (6 : Int32)) < x4 → (vp_in x4 Ls ∧ ((((xs x4.toNatClampNeg) &&& (63 : Int32)) = 0 → AWl LAY ad (EX (SX sb Ls xs) (kc + 1) (ks + 6) LAY) μL_law (d + 1) Q 232 [(0, .ref sb), (1, .ref (ad 0)), (2, .ref (ad 187)), (3, .ref (ad 217)), (4, .int x4)] [] m) ∧ (((xs x4.toNatClampNeg) &&& (63 : Int32)) = 1 → AWl LAY ad (EX (SX sb Ls xs) (kc + 1) (ks + 6) LAY) μL_law (d + 1) Q 257 [(0, .ref sb), (1, .ref (ad 0)), (2, .ref (ad 187)), (3, .ref (ad 217)), (4, .int x4)] [] m) ∧ (((xs x4.toNatClampNeg) &&& (63 : Int32)) = 2 → AWl LAY ad (EX (SX sb Ls xs) (kc + 1) (ks + 6) LAY) μL_law (d + 1) Q 282 [(0, .ref sb), (1, .ref (ad 0)), (2, .ref (ad 187)), (3, .ref (ad 217)), (4, .int x4)] [] m) ∧ (((xs x4.toNatClampNeg) &&& (63 : Int32)) = 3 → AWl LAY ad (EX (SX sb Ls xs) (kc + 1) (ks + 6) LAY) μL_law (d + 1) Q 295 [(0, .ref sb), (1, .ref (ad 0)), (2, .ref (ad 187)), (3, .ref (ad 217)), (4, .int x4)] [] m) ∧ (((xs x4.toNatClampNeg) &&& (63 : Int32)) = 4 → AWl LAY ad (EX (SX sb Ls xs) (kc + 1) (ks + 6) LAY) μL_law (d + 1) Q 308 [(0, .ref sb), (1, .ref (ad 0)), (2, .ref (ad 187)), (3, .ref (ad 217)), (4, .int x4)] [] m) ∧ (((xs x4.toNatClampNeg) &&& (63 : Int32)) = 5 → AWl LAY ad (EX (SX sb Ls xs) (kc + 1) (ks + 6) LAY) μL_law (d + 1) Q 321 [(0, .ref sb), (1, .ref (ad 0)), (2, .ref (ad 187)), (3, .ref (ad 217)), (4, .int x4)] [] m) ∧ (((xs x4.toNatClampNeg) &&& (63 : Int32)) = 6 → AWl LAY ad (EX (SX sb Ls xs) (kc + 1) (ks + 6) LAY) μL_law (d + 1) Q 358 [(0, .ref sb), (1, .ref (ad 0)), (2, .ref (ad 187)), (3, .ref (ad 217)), (4, .int x4)] [] m) ∧ (((xs x4.toNatClampNeg) &&& (63 : Int32)) = 7 → AWl LAY ad (EX (SX sb Ls xs) (kc + 1) (ks + 6) LAY) μL_law (d + 1) Q 426 [(0, .ref sb), (1, .ref (ad 0)), (2, .ref (ad 187)), (3, .ref (ad 217)), (4, .int x4)] [] m) ∧ (((xs x4.toNatClampNeg) &&& (63 : Int32)) = 8 → AWl LAY ad (EX (SX sb Ls xs) (kc + 1) (ks + 6) LAY) μL_law (d + 1) Q 463 [(0, .ref sb), (1, .ref (ad 0)), (2, .ref (ad 187)), (3, .ref (ad 217)), (4, .int x4)] [] m) ∧ (((xs x4.toNatClampNeg) &&& (63 : Int32)) = 9 → AWl LAY ad (EX (SX sb Ls xs) (kc + 1) (ks + 6) LAY) μL_law (d + 1) Q 536 [(0, .ref sb), (1, .ref (ad 0)), (2, .ref (ad 187)), (3, .ref (ad 217)), (4, .int x4)] [] m) ∧ (((xs x4.toNatClampNeg) &&& (63 : Int32)) = 10 → AWl LAY ad (EX (SX sb Ls xs) (kc + 1) (ks + 6) LAY) μL_law (d + 1) Q 589 [(0, .ref sb), (1, .ref (ad 0)), (2, .ref (ad 187)), (3, .ref (ad 217)), (4, .int x4)] [] m) ∧ (((xs x4.toNatClampNeg) &&& (63 : Int32)) = 11 → AWl LAY ad (EX (SX sb Ls xs) (kc + 1) (ks + 6) LAY) μL_law (d + 1) Q 626 [(0, .ref sb), (1, .ref (ad 0)), (2, .ref (ad 187)), (3, .ref (ad 217)), (4, .int x4)] [] m) ∧ (((xs x4.toNatClampNeg) &&& (63 : Int32)) = 12 → AWl LAY ad (EX (SX sb Ls xs) (kc + 1) (ks + 6) LAY) μL_law (d + 1) Q 639 [(0, .ref sb), (1, .ref (ad 0)), (2, .ref (ad 187)), (3, .ref (ad 217)), (4, .int x4)] [] m) ∧ (((xs x4.toNatClampNeg) &&& (63 : Int32)) = 13 → AWl LAY ad (EX (SX sb Ls xs) (kc + 1) (ks + 6) LAY) μL_law (d + 1) Q 688 [(0, .ref sb), (1, .ref (ad 0)), (2, .ref (ad 187)), (3, .ref (ad 217)), (4, .int x4)] [] m) ∧ (((xs x4.toNatClampNeg) &&& (63 : Int32)) = 14 → AWl LAY ad (EX (SX sb Ls xs) (kc + 1) (ks + 6) LAY) μL_law (d + 1) Q 725 [(0, .ref sb), (1, .ref (ad 0)), (2, .ref (ad 187)), (3, .ref (ad 217)), (4, .int x4)] [] m) ∧ (((xs x4.toNatClampNeg) &&& (63 : Int32)) = 15 → AWl LAY ad (EX (SX sb Ls xs) (kc + 1) (ks + 6) LAY) μL_law (d + 1) Q 774 [(0, .ref sb), (1, .ref (ad 0)), (2, .ref (ad 187)), (3, .ref (ad 217)), (4, .int x4)] [] m) ∧ (((xs x4.toNatClampNeg) &&& (63 : Int32)) = 16 → AWl LAY ad (EX (SX sb Ls xs) (kc + 1) (ks + 6) LAY) μL_law (d + 1) Q 787 [(0, .ref sb), (1, .ref (ad 0)), (2, .ref (ad 187)), (3, .ref (ad 217)), (4, .int x4)] [] m) ∧ (((xs x4.toNatClampNeg) &&& (63 : Int32)) = 17 → AWl LAY ad (EX (SX sb Ls xs) (kc + 1) (ks + 6) LAY) μL_law (d + 1) Q 824 [(0, .ref sb), (1, .ref (ad 0)), (2, .ref (ad 187)), (3, .ref (ad 217)), (4, .int x4)] [] m) ∧ (((xs x4.toNatClampNeg) &&& (63 : Int32)) = 18 → AWl LAY ad (EX (SX sb Ls xs) (kc + 1) (ks + 6) LAY) μL_law (d + 1) Q 849 [(0, .ref sb), (1, .ref (ad 0)), (2, .ref (ad 187)), (3, .ref (ad 217)), (4, .int x4)] [] m) ∧ (((xs x4.toNatClampNeg) &&& (63 : Int32)) = 19 → AWl LAY ad (EX (SX sb Ls xs) (kc + 1) (ks + 6) LAY) μL_law (d + 1) Q 874 [(0, .ref sb), (1, .ref (ad 0)), (2, .ref (ad 187)), (3, .ref (ad 217)), (4, .int x4)] [] m) ∧ (((xs x4.toNatClampNeg) &&& (63 : Int32)) = 20 → AWl LAY ad (EX (SX sb Ls xs) (kc + 1) (ks + 6) LAY) μL_law (d + 1) Q 887 [(0, .ref sb), (1, .ref (ad 0)), (2, .ref (ad 187)), (3, .ref (ad 217)), (4, .int x4)] [] m) ∧ (((xs x4.toNatClampNeg) &&& (63 : Int32)) = 21 → AWl LAY ad (EX (SX sb Ls xs) (kc + 1) (ks + 6) LAY) μL_law (d + 1) Q 912 [(0, .ref sb), (1, .ref (ad 0)), (2, .ref (ad 187)), (3, .ref (ad 217)), (4, .int x4)] [] m) ∧ (((xs x4.toNatClampNeg) &&& (63 : Int32)) = 22 → AWl LAY ad (EX (SX sb Ls xs) (kc + 1) (ks + 6) LAY) μL_law (d + 1) Q 925 [(0, .ref sb), (1, .ref (ad 0)), (2, .ref (ad 187)), (3, .ref (ad 217)), (4, .int x4)] [] m) ∧ (((xs x4.toNatClampNeg) &&& (63 : Int32)) = 23 → AWl LAY ad (EX (SX sb Ls xs) (kc + 1) (ks + 6) LAY) μL_law (d + 1) Q 938 [(0, .ref sb), (1, .ref (ad 0)), (2, .ref (ad 187)), (3, .ref (ad 217)), (4, .int x4)] [] m) ∧ (((xs x4.toNatClampNeg) &&& (63 : Int32)) = 24 → AWl LAY ad (EX (SX sb Ls xs) (kc + 1) (ks + 6) LAY) μL_law (d + 1) Q 951 [(0, .ref sb), (1, .ref (ad 0)), (2, .ref (ad 187)), (3, .ref (ad 217)), (4, .int x4)] [] m) ∧ (((xs x4.toNatClampNeg) &&& (63 : Int32)) = 25 → AWl LAY ad (EX (SX sb Ls xs) (kc + 1) (ks + 6) LAY) μL_law (d + 1) Q 988 [(0, .ref sb), (1, .ref (ad 0)), (2, .ref (ad 187)), (3, .ref (ad 217)), (4, .int x4)] [] m) ∧ (((xs x4.toNatClampNeg) &&& (63 : Int32)) = 26 → AWl LAY ad (EX (SX sb Ls xs) (kc + 1) (ks + 6) LAY) μL_law (d + 1) Q 1037 [(0, .ref sb), (1, .ref (ad 0)), (2, .ref (ad 187)), (3, .ref (ad 217)), (4, .int x4)] [] m) ∧ (((xs x4.toNatClampNeg) &&& (63 : Int32)) = 27 → AWl LAY ad (EX (SX sb Ls xs) (kc + 1) (ks + 6) LAY) μL_law (d + 1) Q 1086 [(0, .ref sb), (1, .ref (ad 0)), (2, .ref (ad 187)), (3, .ref (ad 217)), (4, .int x4)] [] m) ∧ (((xs x4.toNatClampNeg) &&& (63 : Int32)) = 28 → AWl LAY ad (EX (SX sb Ls xs) (kc + 1) (ks + 6) LAY) μL_law (d + 1) Q 1111 [(0, .ref sb), (1, .ref (ad 0)), (2, .ref (ad 187)), (3, .ref (ad 217)), (4, .int x4)] [] m) ∧ (((xs x4.toNatClampNeg) &&& (63 : Int32)) = 29 → AWl LAY ad (EX (SX sb Ls xs) (kc + 1) (ks + 6) LAY) μL_law (d + 1) Q 1160 [(0, .ref sb), (1, .ref (ad 0)), (2, .ref (ad 187)), (3, .ref (ad 217)), (4, .int x4)] [] m) ∧ (((xs x4.toNatClampNeg) &&& (63 : Int32)) = 30 → AWl LAY ad (EX (SX sb Ls xs) (kc + 1) (ks + 6) LAY) μL_law (d + 1) Q 1185 [(0, .ref sb), (1, .ref (ad 0)), (2, .ref (ad 187)), (3, .ref (ad 217)), (4, .int x4)] [] m) ∧ (((xs x4.toNatClampNeg) &&& (63 : Int32)) = 31 → AWl LAY ad (EX (SX sb Ls xs) (kc + 1) (ks + 6) LAY) μL_law (d + 1) Q 1222 [(0, .ref sb), (1, .ref (ad 0)), (2, .ref (ad 187)), (3, .ref (ad 217)), (4, .int x4)] [] m) ∧ (((xs x4.toNatClampNeg) &&& (63 : Int32)) = 32 → AWl LAY ad (EX (SX sb Ls xs) (kc + 1) (ks + 6) LAY) μL_law (d + 1) Q 1247 [(0, .ref sb), (1, .ref (ad 0)), (2, .ref (ad 187)), (3, .ref (ad 217)), (4, .int x4)] [] m) ∧ (((xs x4.toNatClampNeg) &&& (63 : Int32)) = 33 → AWl LAY ad (EX (SX sb Ls xs) (kc + 1) (ks + 6) LAY) μL_law (d + 1) Q 1260 [(0, .ref sb), (1, .ref (ad 0)), (2, .ref (ad 187)), (3, .ref (ad 217)), (4, .int x4)] [] m) ∧ (((xs x4.toNatClampNeg) &&& (63 : Int32)) = 34 → AWl LAY ad (EX (SX sb Ls xs) (kc + 1) (ks + 6) LAY) μL_law (d + 1) Q 1285 [(0, .ref sb), (1, .ref (ad 0)), (2, .ref (ad 187)), (3, .ref (ad 217)), (4, .int x4)] [] m) ∧ (((xs x4.toNatClampNeg) &&& (63 : Int32)) = 35 → AWl LAY ad (EX (SX sb Ls xs) (kc + 1) (ks + 6) LAY) μL_law (d + 1) Q 1334 [(0, .ref sb), (1, .ref (ad 0)), (2, .ref (ad 187)), (3, .ref (ad 217)), (4, .int x4)] [] m) ∧ (((xs x4.toNatClampNeg) &&& (63 : Int32)) = 36 → AWl LAY ad (EX (SX sb Ls xs) (kc + 1) (ks + 6) LAY) μL_law (d + 1) Q 1347 [(0, .ref sb), (1, .ref (ad 0)), (2, .ref (ad 187)), (3, .ref (ad 217)), (4, .int x4)] [] m) ∧ (((xs x4.toNatClampNeg) &&& (63 : Int32)) = 37 → AWl LAY ad (EX (SX sb Ls xs) (kc + 1) (ks + 6) LAY) μL_law (d + 1) Q 1360 [(0, .ref sb), (1, .ref (ad 0)), (2, .ref (ad 187)), (3, .ref (ad 217)), (4, .int x4)] [] m) ∧ (((xs x4.toNatClampNeg) &&& (63 : Int32)) = 38 → AWl LAY ad (EX (SX sb Ls xs) (kc + 1) (ks + 6) LAY) μL_law (d + 1) Q 1397 [(0, .ref sb), (1, .ref (ad 0)), (2, .ref (ad 187)), (3, .ref (ad 217)), (4, .int x4)] [] m) ∧ (((xs x4.toNatClampNeg) &&& (63 : Int32)) = 39 → AWl LAY ad (EX (SX sb Ls xs) (kc + 1) (ks + 6) LAY) μL_law (d + 1) Q 1422 [(0, .ref sb), (1, .ref (ad 0)), (2, .ref (ad 187)), (3, .ref (ad 217)), (4, .int x4)] [] m) ∧ (((xs x4.toNatClampNeg) &&& (63 : Int32)) = 40 → AWl LAY ad (EX (SX sb Ls xs) (kc + 1) (ks + 6) LAY) μL_law (d + 1) Q 1447 [(0, .ref sb), (1, .ref (ad 0)), (2, .ref (ad 187)), (3, .ref (ad 217)), (4, .int x4)] [] m) ∧ (((xs x4.toNatClampNeg) &&& (63 : Int32)) = 41 → AWl LAY ad (EX (SX sb Ls xs) (kc + 1) (ks + 6) LAY) μL_law (d + 1) Q 1472 [(0, .ref sb), (1, .ref (ad 0)), (2, .ref (ad 187)), (3, .ref (ad 217)), (4, .int x4)] [] m) ∧ (((xs x4.toNatClampNeg) &&& (63 : Int32)) = 42 → AWl LAY ad (EX (SX sb Ls xs) (kc + 1) (ks + 6) LAY) μL_law (d + 1) Q 1497 [(0, .ref sb), (1, .ref (ad 0)), (2, .ref (ad 187)), (3, .ref (ad 217)), (4, .int x4)] [] m) ∧ (((xs x4.toNatClampNeg) &&& (63 : Int32)) = 43 → AWl LAY ad (EX (SX sb Ls xs) (kc + 1) (ks + 6) LAY) μL_law (d + 1) Q 1522 [(0, .ref sb), (1, .ref (ad 0)), (2, .ref (ad 187)), (3, .ref (ad 217)), (4, .int x4)] [] m) ∧ (¬ ((xs x4.toNatClampNeg) &&& (63 : Int32)) = 0 → ¬ ((xs x4.toNatClampNeg) &&& (63 : Int32)) = 1 → ¬ ((xs x4.toNatClampNeg) &&& (63 : Int32)) = 2 → ¬ ((xs x4.toNatClampNeg) &&& (63 : Int32)) = 3 → ¬ ((xs x4.toNatClampNeg) &&& (63 : Int32)) = 4 → ¬ ((xs x4.toNatClampNeg) &&& (63 : Int32)) = 5 → ¬ ((xs x4.toNatClampNeg) &&& (63 : Int32)) = 6 → ¬ ((xs x4.toNatClampNeg) &&& (63 : Int32)) = 7 → ¬ ((xs x4.toNatClampNeg) &&& (63 : Int32)) = 8 → ¬ ((xs x4.toNatClampNeg) &&& (63 : Int32)) = 9 → ¬ ((xs x4.toNatClampNeg) &&& (63 : Int32)) = 10 → ¬ ((xs x4.toNatClampNeg) &&& (63 : Int32)) = 11 → ¬ ((xs x4.toNatClampNeg) &&& (63 : Int32)) = 12 → ¬ ((xs x4.toNatClampNeg) &&& (63 : Int32)) = 13 → ¬ ((xs x4.toNatClampNeg) &&& (63 : Int32)) = 14 → ¬ ((xs x4.toNatClampNeg) &&& (63 : Int32)) = 15 → ¬ ((xs x4.toNatClampNeg) &&& (63 : Int32)) = 16 → ¬ ((xs x4.toNatClampNeg) &&& (63 : Int32)) = 17 → ¬ ((xs x4.toNatClampNeg) &&& (63 : Int32)) = 18 → ¬ ((xs x4.toNatClampNeg) &&& (63 : Int32)) = 19 → ¬ ((xs x4.toNatClampNeg) &&& (63 : Int32)) = 20 → ¬ ((xs x4.toNatClampNeg) &&& (63 : Int32)) = 21 → ¬ ((xs x4.toNatClampNeg) &&& (63 : Int32)) = 22 → ¬ ((xs x4.toNatClampNeg) &&& (63 : Int32)) = 23 → ¬ ((xs x4.toNatClampNeg) &&& (63 : Int32)) = 24 → ¬ ((xs x4.toNatClampNeg) &&& (63 : Int32)) = 25 → ¬ ((xs x4.toNatClampNeg) &&& (63 : Int32)) = 26 → ¬ ((xs x4.toNatClampNeg) &&& (63 : Int32)) = 27 → ¬ ((xs x4.toNatClampNeg) &&& (63 : Int32)) = 28 → ¬ ((xs x4.toNatClampNeg) &&& (63 : Int32)) = 29 → ¬ ((xs x4.toNatClampNeg) &&& (63 : Int32)) = 30 → ¬ ((xs x4.toNatClampNeg) &&& (63 : Int32)) = 31 → ¬ ((xs x4.toNatClampNeg) &&& (63 : Int32)) = 32 → ¬ ((xs x4.toNatClampNeg) &&& (63 : Int32)) = 33 → ¬ ((xs x4.toNatClampNeg) &&& (63 : Int32)) = 34 → ¬ ((xs x4.toNatClampNeg) &&& (63 : Int32)) = 35 → ¬ ((xs x4.toNatClampNeg) &&& (63 : Int32)) = 36 → ¬ ((xs x4.toNatClampNeg) &&& (63 : Int32)) = 37 → ¬ ((xs x4.toNatClampNeg) &&& (63 : Int32)) = 38 → ¬ ((xs x4.toNatClampNeg) &&& (63 : Int32)) = 39 → ¬ ((xs x4.toNatClampNeg) &&& (63 : Int32)) = 40 → ¬ ((xs x4.toNatClampNeg) &&& (63 : Int32)) = 41 → ¬ ((xs x4.toNatClampNeg) &&& (63 : Int32)) = 42 → ¬ ((xs x4.toNatClampNeg) &&& (63 : Int32)) = 43 → AWl LAY ad (EX (SX sb Ls xs) kc ks LAY) μL_law (d + 1) Q 23 [(0, .ref sb), (1, .ref (ad 0)), (2, .ref (ad 187)), (3, .ref (ad 217)), (4, .int (x4 + (6 : Int32)))] [] m)))))) : AWl LAY ad (EX (SX sb Ls xs) (kc + 1) (ks + 6) LAY) μL_law (d + 1) Q 23 [(0, .ref sb), (1, .ref (ad 0)), (2, .ref (ad 187)), (3, .ref (ad 217)), (4, .int x4)] [] m := by
  refine aw_iload (j := 4) dL_law_23 rfl ?_
  refine aw_aload_n (j := 0) dL_law_25 rfl rfl ?_
  refine aw_slen dL_law_26 ?_
  refine aw_bipush (v := 6) dL_law_27 (by decide) ?_
  refine aw_isub dL_law_29 ?_
  refine aw_icmp_gt (tgt := 1556) dL_law_30 (by decide) (fun hc => ?_) (fun hc => ?_)
  · have h := h.1 hc
    refine aw_iconst (v := 1) dL_law_1556 (by decide) ?_
    exact aw_ret (v := some (.int (1 : Int32))) rfl (Or.inr (Or.inl ⟨_, .boolean, rfl, rfl, by decide, dL_law_1557⟩)) h
  · have h := h.2 hc
    refine aw_aload_n (j := 0) dL_law_33 rfl rfl ?_
    refine aw_iload (j := 4) dL_law_34 rfl ?_
    obtain ⟨hi, h⟩ := h
    refine aw_sld dL_law_36 hi ?_
    refine aw_bipush (v := 63) dL_law_37 (by decide) ?_
    refine aw_iand dL_law_39 ?_
    by_cases c0 : ((xs x4.toNatClampNeg) &&& (63 : Int32)) = 0
    · have h := h.1 c0
      refine aw_tswIn (tgt := 232) dL_law_40 c0 (by decide) (by decide) (by first | rfl | decide) (by decide) ?_
      exact aw_sub [0, 1, 2, 3, 4] rfl h
    by_cases c1 : ((xs x4.toNatClampNeg) &&& (63 : Int32)) = 1
    · have h := h.2.1 c1
      refine aw_tswIn (tgt := 257) dL_law_40 c1 (by decide) (by decide) (by first | rfl | decide) (by decide) ?_
      exact aw_sub [0, 1, 2, 3, 4] rfl h
    by_cases c2 : ((xs x4.toNatClampNeg) &&& (63 : Int32)) = 2
    · have h := h.2.2.1 c2
      refine aw_tswIn (tgt := 282) dL_law_40 c2 (by decide) (by decide) (by first | rfl | decide) (by decide) ?_
      exact aw_sub [0, 1, 2, 3, 4] rfl h
    by_cases c3 : ((xs x4.toNatClampNeg) &&& (63 : Int32)) = 3
    · have h := h.2.2.2.1 c3
      refine aw_tswIn (tgt := 295) dL_law_40 c3 (by decide) (by decide) (by first | rfl | decide) (by decide) ?_
      exact aw_sub [0, 1, 2, 3, 4] rfl h
    by_cases c4 : ((xs x4.toNatClampNeg) &&& (63 : Int32)) = 4
    · have h := h.2.2.2.2.1 c4
      refine aw_tswIn (tgt := 308) dL_law_40 c4 (by decide) (by decide) (by first | rfl | decide) (by decide) ?_
      exact aw_sub [0, 1, 2, 3, 4] rfl h
    by_cases c5 : ((xs x4.toNatClampNeg) &&& (63 : Int32)) = 5
    · have h := h.2.2.2.2.2.1 c5
      refine aw_tswIn (tgt := 321) dL_law_40 c5 (by decide) (by decide) (by first | rfl | decide) (by decide) ?_
      exact aw_sub [0, 1, 2, 3, 4] rfl h
    by_cases c6 : ((xs x4.toNatClampNeg) &&& (63 : Int32)) = 6
    · have h := h.2.2.2.2.2.2.1 c6
      refine aw_tswIn (tgt := 358) dL_law_40 c6 (by decide) (by decide) (by first | rfl | decide) (by decide) ?_
      exact aw_sub [0, 1, 2, 3, 4] rfl h
    by_cases c7 : ((xs x4.toNatClampNeg) &&& (63 : Int32)) = 7
    · have h := h.2.2.2.2.2.2.2.1 c7
      refine aw_tswIn (tgt := 426) dL_law_40 c7 (by decide) (by decide) (by first | rfl | decide) (by decide) ?_
      exact aw_sub [0, 1, 2, 3, 4] rfl h
    by_cases c8 : ((xs x4.toNatClampNeg) &&& (63 : Int32)) = 8
    · have h := h.2.2.2.2.2.2.2.2.1 c8
      refine aw_tswIn (tgt := 463) dL_law_40 c8 (by decide) (by decide) (by first | rfl | decide) (by decide) ?_
      exact aw_sub [0, 1, 2, 3, 4] rfl h
    by_cases c9 : ((xs x4.toNatClampNeg) &&& (63 : Int32)) = 9
    · have h := h.2.2.2.2.2.2.2.2.2.1 c9
      refine aw_tswIn (tgt := 536) dL_law_40 c9 (by decide) (by decide) (by first | rfl | decide) (by decide) ?_
      exact aw_sub [0, 1, 2, 3, 4] rfl h
    by_cases c10 : ((xs x4.toNatClampNeg) &&& (63 : Int32)) = 10
    · have h := h.2.2.2.2.2.2.2.2.2.2.1 c10
      refine aw_tswIn (tgt := 589) dL_law_40 c10 (by decide) (by decide) (by first | rfl | decide) (by decide) ?_
      exact aw_sub [0, 1, 2, 3, 4] rfl h
    by_cases c11 : ((xs x4.toNatClampNeg) &&& (63 : Int32)) = 11
    · have h := h.2.2.2.2.2.2.2.2.2.2.2.1 c11
      refine aw_tswIn (tgt := 626) dL_law_40 c11 (by decide) (by decide) (by first | rfl | decide) (by decide) ?_
      exact aw_sub [0, 1, 2, 3, 4] rfl h
    by_cases c12 : ((xs x4.toNatClampNeg) &&& (63 : Int32)) = 12
    · have h := h.2.2.2.2.2.2.2.2.2.2.2.2.1 c12
      refine aw_tswIn (tgt := 639) dL_law_40 c12 (by decide) (by decide) (by first | rfl | decide) (by decide) ?_
      exact aw_sub [0, 1, 2, 3, 4] rfl h
    by_cases c13 : ((xs x4.toNatClampNeg) &&& (63 : Int32)) = 13
    · have h := h.2.2.2.2.2.2.2.2.2.2.2.2.2.1 c13
      refine aw_tswIn (tgt := 688) dL_law_40 c13 (by decide) (by decide) (by first | rfl | decide) (by decide) ?_
      exact aw_sub [0, 1, 2, 3, 4] rfl h
    by_cases c14 : ((xs x4.toNatClampNeg) &&& (63 : Int32)) = 14
    · have h := h.2.2.2.2.2.2.2.2.2.2.2.2.2.2.1 c14
      refine aw_tswIn (tgt := 725) dL_law_40 c14 (by decide) (by decide) (by first | rfl | decide) (by decide) ?_
      exact aw_sub [0, 1, 2, 3, 4] rfl h
    by_cases c15 : ((xs x4.toNatClampNeg) &&& (63 : Int32)) = 15
    · have h := h.2.2.2.2.2.2.2.2.2.2.2.2.2.2.2.1 c15
      refine aw_tswIn (tgt := 774) dL_law_40 c15 (by decide) (by decide) (by first | rfl | decide) (by decide) ?_
      exact aw_sub [0, 1, 2, 3, 4] rfl h
    by_cases c16 : ((xs x4.toNatClampNeg) &&& (63 : Int32)) = 16
    · have h := h.2.2.2.2.2.2.2.2.2.2.2.2.2.2.2.2.1 c16
      refine aw_tswIn (tgt := 787) dL_law_40 c16 (by decide) (by decide) (by first | rfl | decide) (by decide) ?_
      exact aw_sub [0, 1, 2, 3, 4] rfl h
    by_cases c17 : ((xs x4.toNatClampNeg) &&& (63 : Int32)) = 17
    · have h := h.2.2.2.2.2.2.2.2.2.2.2.2.2.2.2.2.2.1 c17
      refine aw_tswIn (tgt := 824) dL_law_40 c17 (by decide) (by decide) (by first | rfl | decide) (by decide) ?_
      exact aw_sub [0, 1, 2, 3, 4] rfl h
    by_cases c18 : ((xs x4.toNatClampNeg) &&& (63 : Int32)) = 18
    · have h := h.2.2.2.2.2.2.2.2.2.2.2.2.2.2.2.2.2.2.1 c18
      refine aw_tswIn (tgt := 849) dL_law_40 c18 (by decide) (by decide) (by first | rfl | decide) (by decide) ?_
      exact aw_sub [0, 1, 2, 3, 4] rfl h
    by_cases c19 : ((xs x4.toNatClampNeg) &&& (63 : Int32)) = 19
    · have h := h.2.2.2.2.2.2.2.2.2.2.2.2.2.2.2.2.2.2.2.1 c19
      refine aw_tswIn (tgt := 874) dL_law_40 c19 (by decide) (by decide) (by first | rfl | decide) (by decide) ?_
      exact aw_sub [0, 1, 2, 3, 4] rfl h
    by_cases c20 : ((xs x4.toNatClampNeg) &&& (63 : Int32)) = 20
    · have h := h.2.2.2.2.2.2.2.2.2.2.2.2.2.2.2.2.2.2.2.2.1 c20
      refine aw_tswIn (tgt := 887) dL_law_40 c20 (by decide) (by decide) (by first | rfl | decide) (by decide) ?_
      exact aw_sub [0, 1, 2, 3, 4] rfl h
    by_cases c21 : ((xs x4.toNatClampNeg) &&& (63 : Int32)) = 21
    · have h := h.2.2.2.2.2.2.2.2.2.2.2.2.2.2.2.2.2.2.2.2.2.1 c21
      refine aw_tswIn (tgt := 912) dL_law_40 c21 (by decide) (by decide) (by first | rfl | decide) (by decide) ?_
      exact aw_sub [0, 1, 2, 3, 4] rfl h
    by_cases c22 : ((xs x4.toNatClampNeg) &&& (63 : Int32)) = 22
    · have h := h.2.2.2.2.2.2.2.2.2.2.2.2.2.2.2.2.2.2.2.2.2.2.1 c22
      refine aw_tswIn (tgt := 925) dL_law_40 c22 (by decide) (by decide) (by first | rfl | decide) (by decide) ?_
      exact aw_sub [0, 1, 2, 3, 4] rfl h
    by_cases c23 : ((xs x4.toNatClampNeg) &&& (63 : Int32)) = 23
    · have h := h.2.2.2.2.2.2.2.2.2.2.2.2.2.2.2.2.2.2.2.2.2.2.2.1 c23
      refine aw_tswIn (tgt := 938) dL_law_40 c23 (by decide) (by decide) (by first | rfl | decide) (by decide) ?_
      exact aw_sub [0, 1, 2, 3, 4] rfl h
    by_cases c24 : ((xs x4.toNatClampNeg) &&& (63 : Int32)) = 24
    · have h := h.2.2.2.2.2.2.2.2.2.2.2.2.2.2.2.2.2.2.2.2.2.2.2.2.1 c24
      refine aw_tswIn (tgt := 951) dL_law_40 c24 (by decide) (by decide) (by first | rfl | decide) (by decide) ?_
      exact aw_sub [0, 1, 2, 3, 4] rfl h
    by_cases c25 : ((xs x4.toNatClampNeg) &&& (63 : Int32)) = 25
    · have h := h.2.2.2.2.2.2.2.2.2.2.2.2.2.2.2.2.2.2.2.2.2.2.2.2.2.1 c25
      refine aw_tswIn (tgt := 988) dL_law_40 c25 (by decide) (by decide) (by first | rfl | decide) (by decide) ?_
      exact aw_sub [0, 1, 2, 3, 4] rfl h
    by_cases c26 : ((xs x4.toNatClampNeg) &&& (63 : Int32)) = 26
    · have h := h.2.2.2.2.2.2.2.2.2.2.2.2.2.2.2.2.2.2.2.2.2.2.2.2.2.2.1 c26
      refine aw_tswIn (tgt := 1037) dL_law_40 c26 (by decide) (by decide) (by first | rfl | decide) (by decide) ?_
      exact aw_sub [0, 1, 2, 3, 4] rfl h
    by_cases c27 : ((xs x4.toNatClampNeg) &&& (63 : Int32)) = 27
    · have h := h.2.2.2.2.2.2.2.2.2.2.2.2.2.2.2.2.2.2.2.2.2.2.2.2.2.2.2.1 c27
      refine aw_tswIn (tgt := 1086) dL_law_40 c27 (by decide) (by decide) (by first | rfl | decide) (by decide) ?_
      exact aw_sub [0, 1, 2, 3, 4] rfl h
    by_cases c28 : ((xs x4.toNatClampNeg) &&& (63 : Int32)) = 28
    · have h := h.2.2.2.2.2.2.2.2.2.2.2.2.2.2.2.2.2.2.2.2.2.2.2.2.2.2.2.2.1 c28
      refine aw_tswIn (tgt := 1111) dL_law_40 c28 (by decide) (by decide) (by first | rfl | decide) (by decide) ?_
      exact aw_sub [0, 1, 2, 3, 4] rfl h
    by_cases c29 : ((xs x4.toNatClampNeg) &&& (63 : Int32)) = 29
    · have h := h.2.2.2.2.2.2.2.2.2.2.2.2.2.2.2.2.2.2.2.2.2.2.2.2.2.2.2.2.2.1 c29
      refine aw_tswIn (tgt := 1160) dL_law_40 c29 (by decide) (by decide) (by first | rfl | decide) (by decide) ?_
      exact aw_sub [0, 1, 2, 3, 4] rfl h
    by_cases c30 : ((xs x4.toNatClampNeg) &&& (63 : Int32)) = 30
    · have h := h.2.2.2.2.2.2.2.2.2.2.2.2.2.2.2.2.2.2.2.2.2.2.2.2.2.2.2.2.2.2.1 c30
      refine aw_tswIn (tgt := 1185) dL_law_40 c30 (by decide) (by decide) (by first | rfl | decide) (by decide) ?_
      exact aw_sub [0, 1, 2, 3, 4] rfl h
    by_cases c31 : ((xs x4.toNatClampNeg) &&& (63 : Int32)) = 31
    · have h := h.2.2.2.2.2.2.2.2.2.2.2.2.2.2.2.2.2.2.2.2.2.2.2.2.2.2.2.2.2.2.2.1 c31
      refine aw_tswIn (tgt := 1222) dL_law_40 c31 (by decide) (by decide) (by first | rfl | decide) (by decide) ?_
      exact aw_sub [0, 1, 2, 3, 4] rfl h
    by_cases c32 : ((xs x4.toNatClampNeg) &&& (63 : Int32)) = 32
    · have h := h.2.2.2.2.2.2.2.2.2.2.2.2.2.2.2.2.2.2.2.2.2.2.2.2.2.2.2.2.2.2.2.2.1 c32
      refine aw_tswIn (tgt := 1247) dL_law_40 c32 (by decide) (by decide) (by first | rfl | decide) (by decide) ?_
      exact aw_sub [0, 1, 2, 3, 4] rfl h
    by_cases c33 : ((xs x4.toNatClampNeg) &&& (63 : Int32)) = 33
    · have h := h.2.2.2.2.2.2.2.2.2.2.2.2.2.2.2.2.2.2.2.2.2.2.2.2.2.2.2.2.2.2.2.2.2.1 c33
      refine aw_tswIn (tgt := 1260) dL_law_40 c33 (by decide) (by decide) (by first | rfl | decide) (by decide) ?_
      exact aw_sub [0, 1, 2, 3, 4] rfl h
    by_cases c34 : ((xs x4.toNatClampNeg) &&& (63 : Int32)) = 34
    · have h := h.2.2.2.2.2.2.2.2.2.2.2.2.2.2.2.2.2.2.2.2.2.2.2.2.2.2.2.2.2.2.2.2.2.2.1 c34
      refine aw_tswIn (tgt := 1285) dL_law_40 c34 (by decide) (by decide) (by first | rfl | decide) (by decide) ?_
      exact aw_sub [0, 1, 2, 3, 4] rfl h
    by_cases c35 : ((xs x4.toNatClampNeg) &&& (63 : Int32)) = 35
    · have h := h.2.2.2.2.2.2.2.2.2.2.2.2.2.2.2.2.2.2.2.2.2.2.2.2.2.2.2.2.2.2.2.2.2.2.2.1 c35
      refine aw_tswIn (tgt := 1334) dL_law_40 c35 (by decide) (by decide) (by first | rfl | decide) (by decide) ?_
      exact aw_sub [0, 1, 2, 3, 4] rfl h
    by_cases c36 : ((xs x4.toNatClampNeg) &&& (63 : Int32)) = 36
    · have h := h.2.2.2.2.2.2.2.2.2.2.2.2.2.2.2.2.2.2.2.2.2.2.2.2.2.2.2.2.2.2.2.2.2.2.2.2.1 c36
      refine aw_tswIn (tgt := 1347) dL_law_40 c36 (by decide) (by decide) (by first | rfl | decide) (by decide) ?_
      exact aw_sub [0, 1, 2, 3, 4] rfl h
    by_cases c37 : ((xs x4.toNatClampNeg) &&& (63 : Int32)) = 37
    · have h := h.2.2.2.2.2.2.2.2.2.2.2.2.2.2.2.2.2.2.2.2.2.2.2.2.2.2.2.2.2.2.2.2.2.2.2.2.2.1 c37
      refine aw_tswIn (tgt := 1360) dL_law_40 c37 (by decide) (by decide) (by first | rfl | decide) (by decide) ?_
      exact aw_sub [0, 1, 2, 3, 4] rfl h
    by_cases c38 : ((xs x4.toNatClampNeg) &&& (63 : Int32)) = 38
    · have h := h.2.2.2.2.2.2.2.2.2.2.2.2.2.2.2.2.2.2.2.2.2.2.2.2.2.2.2.2.2.2.2.2.2.2.2.2.2.2.1 c38
      refine aw_tswIn (tgt := 1397) dL_law_40 c38 (by decide) (by decide) (by first | rfl | decide) (by decide) ?_
      exact aw_sub [0, 1, 2, 3, 4] rfl h
    by_cases c39 : ((xs x4.toNatClampNeg) &&& (63 : Int32)) = 39
    · have h := h.2.2.2.2.2.2.2.2.2.2.2.2.2.2.2.2.2.2.2.2.2.2.2.2.2.2.2.2.2.2.2.2.2.2.2.2.2.2.2.1 c39
      refine aw_tswIn (tgt := 1422) dL_law_40 c39 (by decide) (by decide) (by first | rfl | decide) (by decide) ?_
      exact aw_sub [0, 1, 2, 3, 4] rfl h
    by_cases c40 : ((xs x4.toNatClampNeg) &&& (63 : Int32)) = 40
    · have h := h.2.2.2.2.2.2.2.2.2.2.2.2.2.2.2.2.2.2.2.2.2.2.2.2.2.2.2.2.2.2.2.2.2.2.2.2.2.2.2.2.1 c40
      refine aw_tswIn (tgt := 1447) dL_law_40 c40 (by decide) (by decide) (by first | rfl | decide) (by decide) ?_
      exact aw_sub [0, 1, 2, 3, 4] rfl h
    by_cases c41 : ((xs x4.toNatClampNeg) &&& (63 : Int32)) = 41
    · have h := h.2.2.2.2.2.2.2.2.2.2.2.2.2.2.2.2.2.2.2.2.2.2.2.2.2.2.2.2.2.2.2.2.2.2.2.2.2.2.2.2.2.1 c41
      refine aw_tswIn (tgt := 1472) dL_law_40 c41 (by decide) (by decide) (by first | rfl | decide) (by decide) ?_
      exact aw_sub [0, 1, 2, 3, 4] rfl h
    by_cases c42 : ((xs x4.toNatClampNeg) &&& (63 : Int32)) = 42
    · have h := h.2.2.2.2.2.2.2.2.2.2.2.2.2.2.2.2.2.2.2.2.2.2.2.2.2.2.2.2.2.2.2.2.2.2.2.2.2.2.2.2.2.2.1 c42
      refine aw_tswIn (tgt := 1497) dL_law_40 c42 (by decide) (by decide) (by first | rfl | decide) (by decide) ?_
      exact aw_sub [0, 1, 2, 3, 4] rfl h
    by_cases c43 : ((xs x4.toNatClampNeg) &&& (63 : Int32)) = 43
    · have h := h.2.2.2.2.2.2.2.2.2.2.2.2.2.2.2.2.2.2.2.2.2.2.2.2.2.2.2.2.2.2.2.2.2.2.2.2.2.2.2.2.2.2.2.1 c43
      refine aw_tswIn (tgt := 1522) dL_law_40 c43 (by decide) (by decide) (by first | rfl | decide) (by decide) ?_
      exact aw_sub [0, 1, 2, 3, 4] rfl h
    have h := h.2.2.2.2.2.2.2.2.2.2.2.2.2.2.2.2.2.2.2.2.2.2.2.2.2.2.2.2.2.2.2.2.2.2.2.2.2.2.2.2.2.2.2.2 c0 c1 c2 c3 c4 c5 c6 c7 c8 c9 c10 c11 c12 c13 c14 c15 c16 c17 c18 c19 c20 c21 c22 c23 c24 c25 c26 c27 c28 c29 c30 c31 c32 c33 c34 c35 c36 c37 c38 c39 c40 c41 c42 c43
    refine aw_tswOut (tgt := 1550) dL_law_40 (by have e0 := i32_ne (n := 0) c0 (by decide); have e1 := i32_ne (n := 1) c1 (by decide); have e2 := i32_ne (n := 2) c2 (by decide); have e3 := i32_ne (n := 3) c3 (by decide); have e4 := i32_ne (n := 4) c4 (by decide); have e5 := i32_ne (n := 5) c5 (by decide); have e6 := i32_ne (n := 6) c6 (by decide); have e7 := i32_ne (n := 7) c7 (by decide); have e8 := i32_ne (n := 8) c8 (by decide); have e9 := i32_ne (n := 9) c9 (by decide); have e10 := i32_ne (n := 10) c10 (by decide); have e11 := i32_ne (n := 11) c11 (by decide); have e12 := i32_ne (n := 12) c12 (by decide); have e13 := i32_ne (n := 13) c13 (by decide); have e14 := i32_ne (n := 14) c14 (by decide); have e15 := i32_ne (n := 15) c15 (by decide); have e16 := i32_ne (n := 16) c16 (by decide); have e17 := i32_ne (n := 17) c17 (by decide); have e18 := i32_ne (n := 18) c18 (by decide); have e19 := i32_ne (n := 19) c19 (by decide); have e20 := i32_ne (n := 20) c20 (by decide); have e21 := i32_ne (n := 21) c21 (by decide); have e22 := i32_ne (n := 22) c22 (by decide); have e23 := i32_ne (n := 23) c23 (by decide); have e24 := i32_ne (n := 24) c24 (by decide); have e25 := i32_ne (n := 25) c25 (by decide); have e26 := i32_ne (n := 26) c26 (by decide); have e27 := i32_ne (n := 27) c27 (by decide); have e28 := i32_ne (n := 28) c28 (by decide); have e29 := i32_ne (n := 29) c29 (by decide); have e30 := i32_ne (n := 30) c30 (by decide); have e31 := i32_ne (n := 31) c31 (by decide); have e32 := i32_ne (n := 32) c32 (by decide); have e33 := i32_ne (n := 33) c33 (by decide); have e34 := i32_ne (n := 34) c34 (by decide); have e35 := i32_ne (n := 35) c35 (by decide); have e36 := i32_ne (n := 36) c36 (by decide); have e37 := i32_ne (n := 37) c37 (by decide); have e38 := i32_ne (n := 38) c38 (by decide); have e39 := i32_ne (n := 39) c39 (by decide); have e40 := i32_ne (n := 40) c40 (by decide); have e41 := i32_ne (n := 41) c41 (by decide); have e42 := i32_ne (n := 42) c42 (by decide); have e43 := i32_ne (n := 43) c43 (by decide); omega) (by decide) ?_
    refine aw_iinc (j := 4) (v := x4 + (6 : Int32)) (L' := [(4, .int (x4 + (6 : Int32))), (0, .ref sb), (1, .ref (ad 0)), (2, .ref (ad 187)), (3, .ref (ad 217))]) dL_law_1550 rfl rfl (by decide) rfl ?_
    refine aw_goto (tgt := 23) dL_law_1553 (by decide) ?_
    exact aw_drop (Nat.le_succ _) (Nat.le_add_right _ _) (aw_sub [1, 2, 3, 4, 0] rfl h)
set_option maxRecDepth 100000 in
set_option maxHeartbeats 4000000 in
theorem g_L_law_232 {ad : Nat → Nat} {sb Ls kc ks : Nat} {xs : Nat → Int32} {d : Nat} {Q : Option Value → Wm → Prop} {m : Wm} {x4 : Int32} (h : (vp_in (x4 + (1 : Int32)) Ls ∧ (Ct ad μX11_sign d [.ref (ad 0), .int (xs (x4 + (1 : Int32)).toNatClampNeg)] m (fun r m1 => ∃ v2 : Int32, r = some (.int v2) ∧ (vp_in (x4 + (1 : Int32)) Ls ∧ (Ct ad μX12_sign d [.ref (ad 187), .int (xs (x4 + (1 : Int32)).toNatClampNeg)] m1 (fun r m3 => ∃ v4 : Int32, r = some (.int v4) ∧ AWl LAY ad (EX (SX sb Ls xs) kc ks LAY) μL_law (d + 1) Q 23 [(0, .ref sb), (1, .ref (ad 0)), (2, .ref (ad 187)), (3, .ref (ad 217)), (4, .int (x4 + (6 : Int32)))] [] m3))))))) : AWl LAY ad (EX (SX sb Ls xs) (kc + 1) (ks + 6) LAY) μL_law (d + 1) Q 232 [(0, .ref sb), (1, .ref (ad 0)), (2, .ref (ad 187)), (3, .ref (ad 217)), (4, .int x4)] [] m := by
  refine aw_aload_n (j := 1) dL_law_232 rfl rfl ?_
  refine aw_aload_n (j := 0) dL_law_233 rfl rfl ?_
  refine aw_iload (j := 4) dL_law_234 rfl ?_
  refine aw_iconst (v := 1) dL_law_236 (by decide) ?_
  refine aw_iadd dL_law_237 ?_
  obtain ⟨hi, h⟩ := h
  refine aw_sld dL_law_238 hi ?_
  refine aw_callV (rest := []) [.int (xs (x4 + (1 : Int32)).toNatClampNeg)] dL_law_239 ly_0 rfl k_L_23 rfl h (Nat.le_of_ble_eq_true rfl) (fun v m1 h => ?_)
  obtain ⟨v2, rfl, h⟩ := h
  refine aw_eq (L' := [(0, .ref sb), (1, .ref (ad 0)), (2, .ref (ad 187)), (3, .ref (ad 217)), (4, .int x4)]) (st' := [.int v2]) (m' := m1) ?_ rfl rfl rfl
  refine aw_pop dL_law_242 rfl ?_
  refine aw_aload_n (j := 2) dL_law_243 rfl rfl ?_
  refine aw_aload_n (j := 0) dL_law_244 rfl rfl ?_
  refine aw_iload (j := 4) dL_law_245 rfl ?_
  refine aw_iconst (v := 1) dL_law_247 (by decide) ?_
  refine aw_iadd dL_law_248 ?_
  obtain ⟨hi, h⟩ := h
  refine aw_sld dL_law_249 hi ?_
  refine aw_callV (rest := []) [.int (xs (x4 + (1 : Int32)).toNatClampNeg)] dL_law_250 ly_187 rfl k_L_27 rfl h (Nat.le_of_ble_eq_true rfl) (fun v m3 h => ?_)
  obtain ⟨v4, rfl, h⟩ := h
  refine aw_eq (L' := [(0, .ref sb), (1, .ref (ad 0)), (2, .ref (ad 187)), (3, .ref (ad 217)), (4, .int x4)]) (st' := [.int v4]) (m' := m3) ?_ rfl rfl rfl
  refine aw_pop dL_law_253 rfl ?_
  refine aw_goto (tgt := 1550) dL_law_254 (by decide) ?_
  refine aw_iinc (j := 4) (v := x4 + (6 : Int32)) (L' := [(4, .int (x4 + (6 : Int32))), (0, .ref sb), (1, .ref (ad 0)), (2, .ref (ad 187)), (3, .ref (ad 217))]) dL_law_1550 rfl rfl (by decide) rfl ?_
  refine aw_goto (tgt := 23) dL_law_1553 (by decide) ?_
  exact aw_drop (Nat.le_succ _) (Nat.le_add_right _ _) (aw_sub [1, 2, 3, 4, 0] rfl h)
set_option maxRecDepth 100000 in
set_option maxHeartbeats 4000000 in
theorem g_L_law_257 {ad : Nat → Nat} {sb Ls kc ks : Nat} {xs : Nat → Int32} {d : Nat} {Q : Option Value → Wm → Prop} {m : Wm} {x4 : Int32} (h : (vp_in (x4 + (1 : Int32)) Ls ∧ (Ct ad μX11_end d [.ref (ad 0), .int (xs (x4 + (1 : Int32)).toNatClampNeg)] m (fun r m1 => ∃ v2 : Int32, r = some (.int v2) ∧ (vp_in (x4 + (1 : Int32)) Ls ∧ (Ct ad μX12_end d [.ref (ad 187), .int (xs (x4 + (1 : Int32)).toNatClampNeg)] m1 (fun r m3 => ∃ v4 : Int32, r = some (.int v4) ∧ AWl LAY ad (EX (SX sb Ls xs) kc ks LAY) μL_law (d + 1) Q 23 [(0, .ref sb), (1, .ref (ad 0)), (2, .ref (ad 187)), (3, .ref (ad 217)), (4, .int (x4 + (6 : Int32)))] [] m3))))))) : AWl LAY ad (EX (SX sb Ls xs) (kc + 1) (ks + 6) LAY) μL_law (d + 1) Q 257 [(0, .ref sb), (1, .ref (ad 0)), (2, .ref (ad 187)), (3, .ref (ad 217)), (4, .int x4)] [] m := by
  refine aw_aload_n (j := 1) dL_law_257 rfl rfl ?_
  refine aw_aload_n (j := 0) dL_law_258 rfl rfl ?_
  refine aw_iload (j := 4) dL_law_259 rfl ?_
  refine aw_iconst (v := 1) dL_law_261 (by decide) ?_
  refine aw_iadd dL_law_262 ?_
  obtain ⟨hi, h⟩ := h
  refine aw_sld dL_law_263 hi ?_
  refine aw_callV (rest := []) [.int (xs (x4 + (1 : Int32)).toNatClampNeg)] dL_law_264 ly_0 rfl k_L_28 rfl h (Nat.le_of_ble_eq_true rfl) (fun v m1 h => ?_)
  obtain ⟨v2, rfl, h⟩ := h
  refine aw_eq (L' := [(0, .ref sb), (1, .ref (ad 0)), (2, .ref (ad 187)), (3, .ref (ad 217)), (4, .int x4)]) (st' := [.int v2]) (m' := m1) ?_ rfl rfl rfl
  refine aw_pop dL_law_267 rfl ?_
  refine aw_aload_n (j := 2) dL_law_268 rfl rfl ?_
  refine aw_aload_n (j := 0) dL_law_269 rfl rfl ?_
  refine aw_iload (j := 4) dL_law_270 rfl ?_
  refine aw_iconst (v := 1) dL_law_272 (by decide) ?_
  refine aw_iadd dL_law_273 ?_
  obtain ⟨hi, h⟩ := h
  refine aw_sld dL_law_274 hi ?_
  refine aw_callV (rest := []) [.int (xs (x4 + (1 : Int32)).toNatClampNeg)] dL_law_275 ly_187 rfl k_L_32 rfl h (Nat.le_of_ble_eq_true rfl) (fun v m3 h => ?_)
  obtain ⟨v4, rfl, h⟩ := h
  refine aw_eq (L' := [(0, .ref sb), (1, .ref (ad 0)), (2, .ref (ad 187)), (3, .ref (ad 217)), (4, .int x4)]) (st' := [.int v4]) (m' := m3) ?_ rfl rfl rfl
  refine aw_pop dL_law_278 rfl ?_
  refine aw_goto (tgt := 1550) dL_law_279 (by decide) ?_
  refine aw_iinc (j := 4) (v := x4 + (6 : Int32)) (L' := [(4, .int (x4 + (6 : Int32))), (0, .ref sb), (1, .ref (ad 0)), (2, .ref (ad 187)), (3, .ref (ad 217))]) dL_law_1550 rfl rfl (by decide) rfl ?_
  refine aw_goto (tgt := 23) dL_law_1553 (by decide) ?_
  exact aw_drop (Nat.le_succ _) (Nat.le_add_right _ _) (aw_sub [1, 2, 3, 4, 0] rfl h)
set_option maxRecDepth 100000 in
set_option maxHeartbeats 4000000 in
theorem g_L_law_282 {ad : Nat → Nat} {sb Ls kc ks : Nat} {xs : Nat → Int32} {d : Nat} {Q : Option Value → Wm → Prop} {m : Wm} {x4 : Int32} (h : (Ct ad μX11_league d [.ref (ad 0)] m (fun r m1 => ∃ v2 : Int32, r = some (.int v2) ∧ (Ct ad μX12_league d [.ref (ad 187)] m1 (fun r m3 => ∃ v4 : Int32, r = some (.int v4) ∧ AWl LAY ad (EX (SX sb Ls xs) kc ks LAY) μL_law (d + 1) Q 23 [(0, .ref sb), (1, .ref (ad 0)), (2, .ref (ad 187)), (3, .ref (ad 217)), (4, .int (x4 + (6 : Int32)))] [] m3))))) : AWl LAY ad (EX (SX sb Ls xs) (kc + 1) (ks + 6) LAY) μL_law (d + 1) Q 282 [(0, .ref sb), (1, .ref (ad 0)), (2, .ref (ad 187)), (3, .ref (ad 217)), (4, .int x4)] [] m := by
  refine aw_aload_n (j := 1) dL_law_282 rfl rfl ?_
  refine aw_callV (rest := []) [] dL_law_283 ly_0 rfl k_L_33 rfl h (Nat.le_of_ble_eq_true rfl) (fun v m1 h => ?_)
  obtain ⟨v2, rfl, h⟩ := h
  refine aw_eq (L' := [(0, .ref sb), (1, .ref (ad 0)), (2, .ref (ad 187)), (3, .ref (ad 217)), (4, .int x4)]) (st' := [.int v2]) (m' := m1) ?_ rfl rfl rfl
  refine aw_pop dL_law_286 rfl ?_
  refine aw_aload_n (j := 2) dL_law_287 rfl rfl ?_
  refine aw_callV (rest := []) [] dL_law_288 ly_187 rfl k_L_37 rfl h (Nat.le_of_ble_eq_true rfl) (fun v m3 h => ?_)
  obtain ⟨v4, rfl, h⟩ := h
  refine aw_eq (L' := [(0, .ref sb), (1, .ref (ad 0)), (2, .ref (ad 187)), (3, .ref (ad 217)), (4, .int x4)]) (st' := [.int v4]) (m' := m3) ?_ rfl rfl rfl
  refine aw_pop dL_law_291 rfl ?_
  refine aw_goto (tgt := 1550) dL_law_292 (by decide) ?_
  refine aw_iinc (j := 4) (v := x4 + (6 : Int32)) (L' := [(4, .int (x4 + (6 : Int32))), (0, .ref sb), (1, .ref (ad 0)), (2, .ref (ad 187)), (3, .ref (ad 217))]) dL_law_1550 rfl rfl (by decide) rfl ?_
  refine aw_goto (tgt := 23) dL_law_1553 (by decide) ?_
  exact aw_drop (Nat.le_succ _) (Nat.le_add_right _ _) (aw_sub [1, 2, 3, 4, 0] rfl h)
set_option maxRecDepth 100000 in
set_option maxHeartbeats 4000000 in
theorem g_L_law_295 {ad : Nat → Nat} {sb Ls kc ks : Nat} {xs : Nat → Int32} {d : Nat} {Q : Option Value → Wm → Prop} {m : Wm} {x4 : Int32} (h : (Ct ad μX11_rule d [.ref (ad 0)] m (fun r m1 => ∃ v2 : Int32, r = some (.int v2) ∧ (Ct ad μX12_rule d [.ref (ad 187)] m1 (fun r m3 => ∃ v4 : Int32, r = some (.int v4) ∧ AWl LAY ad (EX (SX sb Ls xs) kc ks LAY) μL_law (d + 1) Q 23 [(0, .ref sb), (1, .ref (ad 0)), (2, .ref (ad 187)), (3, .ref (ad 217)), (4, .int (x4 + (6 : Int32)))] [] m3))))) : AWl LAY ad (EX (SX sb Ls xs) (kc + 1) (ks + 6) LAY) μL_law (d + 1) Q 295 [(0, .ref sb), (1, .ref (ad 0)), (2, .ref (ad 187)), (3, .ref (ad 217)), (4, .int x4)] [] m := by
  refine aw_aload_n (j := 1) dL_law_295 rfl rfl ?_
  refine aw_callV (rest := []) [] dL_law_296 ly_0 rfl k_L_38 rfl h (Nat.le_of_ble_eq_true rfl) (fun v m1 h => ?_)
  obtain ⟨v2, rfl, h⟩ := h
  refine aw_eq (L' := [(0, .ref sb), (1, .ref (ad 0)), (2, .ref (ad 187)), (3, .ref (ad 217)), (4, .int x4)]) (st' := [.int v2]) (m' := m1) ?_ rfl rfl rfl
  refine aw_pop dL_law_299 rfl ?_
  refine aw_aload_n (j := 2) dL_law_300 rfl rfl ?_
  refine aw_callV (rest := []) [] dL_law_301 ly_187 rfl k_L_41 rfl h (Nat.le_of_ble_eq_true rfl) (fun v m3 h => ?_)
  obtain ⟨v4, rfl, h⟩ := h
  refine aw_eq (L' := [(0, .ref sb), (1, .ref (ad 0)), (2, .ref (ad 187)), (3, .ref (ad 217)), (4, .int x4)]) (st' := [.int v4]) (m' := m3) ?_ rfl rfl rfl
  refine aw_pop dL_law_304 rfl ?_
  refine aw_goto (tgt := 1550) dL_law_305 (by decide) ?_
  refine aw_iinc (j := 4) (v := x4 + (6 : Int32)) (L' := [(4, .int (x4 + (6 : Int32))), (0, .ref sb), (1, .ref (ad 0)), (2, .ref (ad 187)), (3, .ref (ad 217))]) dL_law_1550 rfl rfl (by decide) rfl ?_
  refine aw_goto (tgt := 23) dL_law_1553 (by decide) ?_
  exact aw_drop (Nat.le_succ _) (Nat.le_add_right _ _) (aw_sub [1, 2, 3, 4, 0] rfl h)
set_option maxRecDepth 100000 in
set_option maxHeartbeats 4000000 in
theorem g_L_law_308 {ad : Nat → Nat} {sb Ls kc ks : Nat} {xs : Nat → Int32} {d : Nat} {Q : Option Value → Wm → Prop} {m : Wm} {x4 : Int32} (h : (Ct ad μX11_plan d [.ref (ad 0)] m (fun r m1 => ∃ v2 : Int32, r = some (.int v2) ∧ (Ct ad μX12_plan d [.ref (ad 187)] m1 (fun r m3 => ∃ v4 : Int32, r = some (.int v4) ∧ AWl LAY ad (EX (SX sb Ls xs) kc ks LAY) μL_law (d + 1) Q 23 [(0, .ref sb), (1, .ref (ad 0)), (2, .ref (ad 187)), (3, .ref (ad 217)), (4, .int (x4 + (6 : Int32)))] [] m3))))) : AWl LAY ad (EX (SX sb Ls xs) (kc + 1) (ks + 6) LAY) μL_law (d + 1) Q 308 [(0, .ref sb), (1, .ref (ad 0)), (2, .ref (ad 187)), (3, .ref (ad 217)), (4, .int x4)] [] m := by
  refine aw_aload_n (j := 1) dL_law_308 rfl rfl ?_
  refine aw_callV (rest := []) [] dL_law_309 ly_0 rfl k_L_42 rfl h (Nat.le_of_ble_eq_true rfl) (fun v m1 h => ?_)
  obtain ⟨v2, rfl, h⟩ := h
  refine aw_eq (L' := [(0, .ref sb), (1, .ref (ad 0)), (2, .ref (ad 187)), (3, .ref (ad 217)), (4, .int x4)]) (st' := [.int v2]) (m' := m1) ?_ rfl rfl rfl
  refine aw_pop dL_law_312 rfl ?_
  refine aw_aload_n (j := 2) dL_law_313 rfl rfl ?_
  refine aw_callV (rest := []) [] dL_law_314 ly_187 rfl k_L_45 rfl h (Nat.le_of_ble_eq_true rfl) (fun v m3 h => ?_)
  obtain ⟨v4, rfl, h⟩ := h
  refine aw_eq (L' := [(0, .ref sb), (1, .ref (ad 0)), (2, .ref (ad 187)), (3, .ref (ad 217)), (4, .int x4)]) (st' := [.int v4]) (m' := m3) ?_ rfl rfl rfl
  refine aw_pop dL_law_317 rfl ?_
  refine aw_goto (tgt := 1550) dL_law_318 (by decide) ?_
  refine aw_iinc (j := 4) (v := x4 + (6 : Int32)) (L' := [(4, .int (x4 + (6 : Int32))), (0, .ref sb), (1, .ref (ad 0)), (2, .ref (ad 187)), (3, .ref (ad 217))]) dL_law_1550 rfl rfl (by decide) rfl ?_
  refine aw_goto (tgt := 23) dL_law_1553 (by decide) ?_
  exact aw_drop (Nat.le_succ _) (Nat.le_add_right _ _) (aw_sub [1, 2, 3, 4, 0] rfl h)
set_option maxRecDepth 100000 in
set_option maxHeartbeats 4000000 in
theorem g_L_law_321 {ad : Nat → Nat} {sb Ls kc ks : Nat} {xs : Nat → Int32} {d : Nat} {Q : Option Value → Wm → Prop} {m : Wm} {x4 : Int32} (h : (vp_in (x4 + (1 : Int32)) Ls ∧ (vp_in (x4 + (2 : Int32)) Ls ∧ (Ct ad μX11_skill d [.ref (ad 0), .int (xs (x4 + (1 : Int32)).toNatClampNeg), .int (xs (x4 + (2 : Int32)).toNatClampNeg)] m (fun r m1 => ∃ v2 : Int32, r = some (.int v2) ∧ (vp_in (x4 + (1 : Int32)) Ls ∧ (vp_in (x4 + (2 : Int32)) Ls ∧ (Ct ad μX12_skill d [.ref (ad 187), .int (xs (x4 + (1 : Int32)).toNatClampNeg), .int (xs (x4 + (2 : Int32)).toNatClampNeg)] m1 (fun r m3 => ∃ v4 : Int32, r = some (.int v4) ∧ AWl LAY ad (EX (SX sb Ls xs) kc ks LAY) μL_law (d + 1) Q 23 [(0, .ref sb), (1, .ref (ad 0)), (2, .ref (ad 187)), (3, .ref (ad 217)), (4, .int (x4 + (6 : Int32)))] [] m3))))))))) : AWl LAY ad (EX (SX sb Ls xs) (kc + 1) (ks + 6) LAY) μL_law (d + 1) Q 321 [(0, .ref sb), (1, .ref (ad 0)), (2, .ref (ad 187)), (3, .ref (ad 217)), (4, .int x4)] [] m := by
  refine aw_aload_n (j := 1) dL_law_321 rfl rfl ?_
  refine aw_aload_n (j := 0) dL_law_322 rfl rfl ?_
  refine aw_iload (j := 4) dL_law_323 rfl ?_
  refine aw_iconst (v := 1) dL_law_325 (by decide) ?_
  refine aw_iadd dL_law_326 ?_
  obtain ⟨hi, h⟩ := h
  refine aw_sld dL_law_327 hi ?_
  refine aw_aload_n (j := 0) dL_law_328 rfl rfl ?_
  refine aw_iload (j := 4) dL_law_329 rfl ?_
  refine aw_iconst (v := 2) dL_law_331 (by decide) ?_
  refine aw_iadd dL_law_332 ?_
  obtain ⟨hi, h⟩ := h
  refine aw_sld dL_law_333 hi ?_
  refine aw_callV (rest := []) [.int (xs (x4 + (1 : Int32)).toNatClampNeg), .int (xs (x4 + (2 : Int32)).toNatClampNeg)] dL_law_334 ly_0 rfl k_L_46 rfl h (Nat.le_of_ble_eq_true rfl) (fun v m1 h => ?_)
  obtain ⟨v2, rfl, h⟩ := h
  refine aw_eq (L' := [(0, .ref sb), (1, .ref (ad 0)), (2, .ref (ad 187)), (3, .ref (ad 217)), (4, .int x4)]) (st' := [.int v2]) (m' := m1) ?_ rfl rfl rfl
  refine aw_pop dL_law_337 rfl ?_
  refine aw_aload_n (j := 2) dL_law_338 rfl rfl ?_
  refine aw_aload_n (j := 0) dL_law_339 rfl rfl ?_
  refine aw_iload (j := 4) dL_law_340 rfl ?_
  refine aw_iconst (v := 1) dL_law_342 (by decide) ?_
  refine aw_iadd dL_law_343 ?_
  obtain ⟨hi, h⟩ := h
  refine aw_sld dL_law_344 hi ?_
  refine aw_aload_n (j := 0) dL_law_345 rfl rfl ?_
  refine aw_iload (j := 4) dL_law_346 rfl ?_
  refine aw_iconst (v := 2) dL_law_348 (by decide) ?_
  refine aw_iadd dL_law_349 ?_
  obtain ⟨hi, h⟩ := h
  refine aw_sld dL_law_350 hi ?_
  refine aw_callV (rest := []) [.int (xs (x4 + (1 : Int32)).toNatClampNeg), .int (xs (x4 + (2 : Int32)).toNatClampNeg)] dL_law_351 ly_187 rfl k_L_49 rfl h (Nat.le_of_ble_eq_true rfl) (fun v m3 h => ?_)
  obtain ⟨v4, rfl, h⟩ := h
  refine aw_eq (L' := [(0, .ref sb), (1, .ref (ad 0)), (2, .ref (ad 187)), (3, .ref (ad 217)), (4, .int x4)]) (st' := [.int v4]) (m' := m3) ?_ rfl rfl rfl
  refine aw_pop dL_law_354 rfl ?_
  refine aw_goto (tgt := 1550) dL_law_355 (by decide) ?_
  refine aw_iinc (j := 4) (v := x4 + (6 : Int32)) (L' := [(4, .int (x4 + (6 : Int32))), (0, .ref sb), (1, .ref (ad 0)), (2, .ref (ad 187)), (3, .ref (ad 217))]) dL_law_1550 rfl rfl (by decide) rfl ?_
  refine aw_goto (tgt := 23) dL_law_1553 (by decide) ?_
  exact aw_drop (Nat.le_succ _) (Nat.le_add_right _ _) (aw_sub [1, 2, 3, 4, 0] rfl h)
set_option maxRecDepth 100000 in
set_option maxHeartbeats 4000000 in
theorem g_L_law_358 {ad : Nat → Nat} {sb Ls kc ks : Nat} {xs : Nat → Int32} {d : Nat} {Q : Option Value → Wm → Prop} {m : Wm} {x4 : Int32} (h : (vp_in (x4 + (1 : Int32)) Ls ∧ (vp_in (x4 + (2 : Int32)) Ls ∧ (Ctg ad μL_of hL_of d 1 6 [.ref (ad 0), .int (xs (x4 + (1 : Int32)).toNatClampNeg), .int (xs (x4 + (2 : Int32)).toNatClampNeg), .ref (ad 217)] m (fun r m1 => ∃ v2 : Int32, r = some (.int v2) ∧ (vp_in (x4 + (1 : Int32)) Ls ∧ (vp_in (x4 + (2 : Int32)) Ls ∧ (Ct ad μX12_of d [.ref (ad 187), .int (xs (x4 + (1 : Int32)).toNatClampNeg), .int (xs (x4 + (2 : Int32)).toNatClampNeg)] m1 (fun r m3 => ∃ v4 : Int32, r = some (.int v4) ∧ (Ct ad μX12_thrown d [.ref (ad 187)] m3 (fun r m5 => ∃ v6 : Int32, r = some (.int v6) ∧ ((v6 = v2 → ((¬ v2 = 0 → AWl LAY ad (EX (SX sb Ls xs) kc ks LAY) μL_law (d + 1) Q 23 [(0, .ref sb), (1, .ref (ad 0)), (2, .ref (ad 187)), (3, .ref (ad 217)), (4, .int (x4 + (6 : Int32)))] [] m5) ∧ (v2 = 0 → (((lg_cmp (m5.2.1 217 (0 : Int32).toNatClampNeg) v4.toInt64) = 0 → AWl LAY ad (EX (SX sb Ls xs) kc ks LAY) μL_law (d + 1) Q 23 [(0, .ref sb), (1, .ref (ad 0)), (2, .ref (ad 187)), (3, .ref (ad 217)), (4, .int (x4 + (6 : Int32)))] [] m5) ∧ (¬ (lg_cmp (m5.2.1 217 (0 : Int32).toNatClampNeg) v4.toInt64) = 0 → Q (some (.int (0 : Int32))) m5))))) ∧ (¬ v6 = v2 → Q (some (.int (0 : Int32))) m5))))))))))))) : AWl LAY ad (EX (SX sb Ls xs) (kc + 1) (ks + 6) LAY) μL_law (d + 1) Q 358 [(0, .ref sb), (1, .ref (ad 0)), (2, .ref (ad 187)), (3, .ref (ad 217)), (4, .int x4)] [] m := by
  refine aw_aload_n (j := 1) dL_law_358 rfl rfl ?_
  refine aw_aload_n (j := 0) dL_law_359 rfl rfl ?_
  refine aw_iload (j := 4) dL_law_360 rfl ?_
  refine aw_iconst (v := 1) dL_law_362 (by decide) ?_
  refine aw_iadd dL_law_363 ?_
  obtain ⟨hi, h⟩ := h
  refine aw_sld dL_law_364 hi ?_
  refine aw_aload_n (j := 0) dL_law_365 rfl rfl ?_
  refine aw_iload (j := 4) dL_law_366 rfl ?_
  refine aw_iconst (v := 2) dL_law_368 (by decide) ?_
  refine aw_iadd dL_law_369 ?_
  obtain ⟨hi, h⟩ := h
  refine aw_sld dL_law_370 hi ?_
  refine aw_aload_n (j := 3) dL_law_371 rfl rfl ?_
  refine aw_callSg (rest := []) [.ref (ad 0), .int (xs (x4 + (1 : Int32)).toNatClampNeg), .int (xs (x4 + (2 : Int32)).toNatClampNeg), .ref (ad 217)] dL_law_372 k_L_50 rfl h (Nat.le_of_ble_eq_true rfl) (fun v m1 h => ?_)
  obtain ⟨v2, rfl, h⟩ := h
  refine aw_eq (L' := [(0, .ref sb), (1, .ref (ad 0)), (2, .ref (ad 187)), (3, .ref (ad 217)), (4, .int x4)]) (st' := [.int v2]) (m' := m1) ?_ rfl rfl rfl
  refine aw_istore (L' := [(5, .int v2), (0, .ref sb), (1, .ref (ad 0)), (2, .ref (ad 187)), (3, .ref (ad 217)), (4, .int x4)]) dL_law_375 (by decide) rfl ?_
  refine aw_aload_n (j := 3) dL_law_377 rfl rfl ?_
  refine aw_aload_n (j := 1) dL_law_378 rfl rfl ?_
  refine aw_iload (j := 5) dL_law_379 rfl ?_
  refine aw_iconst (v := 1) dL_law_381 (by decide) ?_
  refine aw_iadd dL_law_382 ?_
  obtain ⟨hi, h⟩ := h
  refine aw_sld dL_law_383 hi ?_
  refine aw_aload_n (j := 1) dL_law_384 rfl rfl ?_
  refine aw_iload (j := 5) dL_law_385 rfl ?_
  refine aw_iconst (v := 2) dL_law_387 (by decide) ?_
  refine aw_iadd dL_law_388 ?_
  obtain ⟨hi, h⟩ := h
  refine aw_sld dL_law_389 hi ?_
  refine aw_callV (rest := []) [.int (xs (x4 + (1 : Int32)).toNatClampNeg), .int (xs (x4 + (2 : Int32)).toNatClampNeg)] dL_law_390 ly_187 rfl k_L_55 rfl h (Nat.le_of_ble_eq_true rfl) (fun v m3 h => ?_)
  obtain ⟨v4, rfl, h⟩ := h
  refine aw_eq (L' := [(5, .int v2), (0, .ref sb), (1, .ref (ad 0)), (2, .ref (ad 187)), (3, .ref (ad 217)), (4, .int x4)]) (st' := [.int v4]) (m' := m3) ?_ rfl rfl rfl
  refine aw_istore (L' := [(6, .int v4), (5, .int v2), (0, .ref sb), (1, .ref (ad 0)), (2, .ref (ad 187)), (3, .ref (ad 217)), (4, .int x4)]) dL_law_393 (by decide) rfl ?_
  refine aw_aload_n (j := 4) dL_law_395 rfl rfl ?_
  refine aw_callV (rest := []) [] dL_law_396 ly_187 rfl k_L_56 rfl h (Nat.le_of_ble_eq_true rfl) (fun v m5 h => ?_)
  obtain ⟨v6, rfl, h⟩ := h
  refine aw_eq (L' := [(6, .int v4), (5, .int v2), (0, .ref sb), (1, .ref (ad 0)), (2, .ref (ad 187)), (3, .ref (ad 217)), (4, .int x4)]) (st' := [.int v6]) (m' := m5) ?_ rfl rfl rfl
  refine aw_iload (j := 1) dL_law_399 rfl ?_
  refine aw_icmp_eq (tgt := 406) dL_law_401 (by decide) (fun hc => ?_) (fun hc => ?_)
  · have h := h.1 hc
    refine aw_iload (j := 1) dL_law_406 rfl ?_
    refine aw_if_ne (tgt := 423) dL_law_408 (by decide) (fun hc => ?_) (fun hc => ?_)
    · have h := h.1 hc
      refine aw_goto (tgt := 1550) dL_law_423 (by decide) ?_
      refine aw_iinc (j := 6) (v := x4 + (6 : Int32)) (L' := [(4, .int (x4 + (6 : Int32))), (6, .int v4), (5, .int v2), (0, .ref sb), (1, .ref (ad 0)), (2, .ref (ad 187)), (3, .ref (ad 217))]) dL_law_1550 rfl rfl (by decide) rfl ?_
      refine aw_goto (tgt := 23) dL_law_1553 (by decide) ?_
      exact aw_sub [3, 4, 5, 6, 0] rfl h
    · have h := h.2 hc
      refine aw_aload_n (j := 5) dL_law_411 rfl rfl ?_
      refine aw_iconst (v := 0) dL_law_412 (by decide) ?_
      refine aw_laload dL_law_413 ly_217 (by unfold vp_in; decide) ?_
      refine aw_iload (j := 0) dL_law_414 rfl ?_
      refine aw_i2l dL_law_416 ?_
      refine aw_lcmp dL_law_417 ?_
      refine aw_if_eq (tgt := 423) dL_law_418 (by decide) (fun hc => ?_) (fun hc => ?_)
      · have h := h.1 hc
        refine aw_goto (tgt := 1550) dL_law_423 (by decide) ?_
        refine aw_iinc (j := 6) (v := x4 + (6 : Int32)) (L' := [(4, .int (x4 + (6 : Int32))), (6, .int v4), (5, .int v2), (0, .ref sb), (1, .ref (ad 0)), (2, .ref (ad 187)), (3, .ref (ad 217))]) dL_law_1550 rfl rfl (by decide) rfl ?_
        refine aw_goto (tgt := 23) dL_law_1553 (by decide) ?_
        exact aw_sub [3, 4, 5, 6, 0] rfl h
      · have h := h.2 hc
        refine aw_iconst (v := 0) dL_law_421 (by decide) ?_
        exact aw_ret (v := some (.int (0 : Int32))) rfl (Or.inr (Or.inl ⟨_, .boolean, rfl, rfl, by decide, dL_law_422⟩)) h
  · have h := h.2 hc
    refine aw_iconst (v := 0) dL_law_404 (by decide) ?_
    exact aw_ret (v := some (.int (0 : Int32))) rfl (Or.inr (Or.inl ⟨_, .boolean, rfl, rfl, by decide, dL_law_405⟩)) h
set_option maxRecDepth 100000 in
set_option maxHeartbeats 4000000 in
theorem g_L_law_426 {ad : Nat → Nat} {sb Ls kc ks : Nat} {xs : Nat → Int32} {d : Nat} {Q : Option Value → Wm → Prop} {m : Wm} {x4 : Int32} (h : (vp_in (x4 + (1 : Int32)) Ls ∧ (vp_in (x4 + (2 : Int32)) Ls ∧ (Ct ad μX11_law d [.ref (ad 0), .int (xs (x4 + (1 : Int32)).toNatClampNeg), .int (xs (x4 + (2 : Int32)).toNatClampNeg)] m (fun r m1 => ∃ v2 : Int32, r = some (.int v2) ∧ (vp_in (x4 + (1 : Int32)) Ls ∧ (vp_in (x4 + (2 : Int32)) Ls ∧ (Ct ad μX12_law d [.ref (ad 187), .int (xs (x4 + (1 : Int32)).toNatClampNeg), .int (xs (x4 + (2 : Int32)).toNatClampNeg)] m1 (fun r m3 => ∃ v4 : Int32, r = some (.int v4) ∧ AWl LAY ad (EX (SX sb Ls xs) kc ks LAY) μL_law (d + 1) Q 23 [(0, .ref sb), (1, .ref (ad 0)), (2, .ref (ad 187)), (3, .ref (ad 217)), (4, .int (x4 + (6 : Int32)))] [] m3))))))))) : AWl LAY ad (EX (SX sb Ls xs) (kc + 1) (ks + 6) LAY) μL_law (d + 1) Q 426 [(0, .ref sb), (1, .ref (ad 0)), (2, .ref (ad 187)), (3, .ref (ad 217)), (4, .int x4)] [] m := by
  refine aw_aload_n (j := 1) dL_law_426 rfl rfl ?_
  refine aw_aload_n (j := 0) dL_law_427 rfl rfl ?_
  refine aw_iload (j := 4) dL_law_428 rfl ?_
  refine aw_iconst (v := 1) dL_law_430 (by decide) ?_
  refine aw_iadd dL_law_431 ?_
  obtain ⟨hi, h⟩ := h
  refine aw_sld dL_law_432 hi ?_
  refine aw_aload_n (j := 0) dL_law_433 rfl rfl ?_
  refine aw_iload (j := 4) dL_law_434 rfl ?_
  refine aw_iconst (v := 2) dL_law_436 (by decide) ?_
  refine aw_iadd dL_law_437 ?_
  obtain ⟨hi, h⟩ := h
  refine aw_sld dL_law_438 hi ?_
  refine aw_callV (rest := []) [.int (xs (x4 + (1 : Int32)).toNatClampNeg), .int (xs (x4 + (2 : Int32)).toNatClampNeg)] dL_law_439 ly_0 rfl k_L_59 rfl h (Nat.le_of_ble_eq_true rfl) (fun v m1 h => ?_)
  obtain ⟨v2, rfl, h⟩ := h
  refine aw_eq (L' := [(0, .ref sb), (1, .ref (ad 0)), (2, .ref (ad 187)), (3, .ref (ad 217)), (4, .int x4)]) (st' := [.int v2]) (m' := m1) ?_ rfl rfl rfl
  refine aw_pop dL_law_442 rfl ?_
  refine aw_aload_n (j := 2) dL_law_443 rfl rfl ?_
  refine aw_aload_n (j := 0) dL_law_444 rfl rfl ?_
  refine aw_iload (j := 4) dL_law_445 rfl ?_
  refine aw_iconst (v := 1) dL_law_447 (by decide) ?_
  refine aw_iadd dL_law_448 ?_
  obtain ⟨hi, h⟩ := h
  refine aw_sld dL_law_449 hi ?_
  refine aw_aload_n (j := 0) dL_law_450 rfl rfl ?_
  refine aw_iload (j := 4) dL_law_451 rfl ?_
  refine aw_iconst (v := 2) dL_law_453 (by decide) ?_
  refine aw_iadd dL_law_454 ?_
  obtain ⟨hi, h⟩ := h
  refine aw_sld dL_law_455 hi ?_
  refine aw_callV (rest := []) [.int (xs (x4 + (1 : Int32)).toNatClampNeg), .int (xs (x4 + (2 : Int32)).toNatClampNeg)] dL_law_456 ly_187 rfl k_L_62 rfl h (Nat.le_of_ble_eq_true rfl) (fun v m3 h => ?_)
  obtain ⟨v4, rfl, h⟩ := h
  refine aw_eq (L' := [(0, .ref sb), (1, .ref (ad 0)), (2, .ref (ad 187)), (3, .ref (ad 217)), (4, .int x4)]) (st' := [.int v4]) (m' := m3) ?_ rfl rfl rfl
  refine aw_pop dL_law_459 rfl ?_
  refine aw_goto (tgt := 1550) dL_law_460 (by decide) ?_
  refine aw_iinc (j := 4) (v := x4 + (6 : Int32)) (L' := [(4, .int (x4 + (6 : Int32))), (0, .ref sb), (1, .ref (ad 0)), (2, .ref (ad 187)), (3, .ref (ad 217))]) dL_law_1550 rfl rfl (by decide) rfl ?_
  refine aw_goto (tgt := 23) dL_law_1553 (by decide) ?_
  exact aw_drop (Nat.le_succ _) (Nat.le_add_right _ _) (aw_sub [1, 2, 3, 4, 0] rfl h)
set_option maxRecDepth 100000 in
set_option maxHeartbeats 4000000 in
theorem g_L_law_463 {ad : Nat → Nat} {sb Ls kc ks : Nat} {xs : Nat → Int32} {d : Nat} {Q : Option Value → Wm → Prop} {m : Wm} {x4 : Int32} (h : (vp_in (x4 + (1 : Int32)) Ls ∧ (vp_in (x4 + (2 : Int32)) Ls ∧ (vp_in (x4 + (3 : Int32)) Ls ∧ (vp_in (x4 + (4 : Int32)) Ls ∧ (vp_in (x4 + (5 : Int32)) Ls ∧ (Ct ad μX11_sheet d [.ref (ad 0), .int (xs (x4 + (1 : Int32)).toNatClampNeg), .int (xs (x4 + (2 : Int32)).toNatClampNeg), .int (xs (x4 + (3 : Int32)).toNatClampNeg), .int (xs (x4 + (4 : Int32)).toNatClampNeg), .int (xs (x4 + (5 : Int32)).toNatClampNeg)] m (fun r m1 => ∃ v2 : Int32, r = some (.int v2) ∧ (vp_in (x4 + (1 : Int32)) Ls ∧ (vp_in (x4 + (2 : Int32)) Ls ∧ (vp_in (x4 + (3 : Int32)) Ls ∧ (vp_in (x4 + (4 : Int32)) Ls ∧ (vp_in (x4 + (5 : Int32)) Ls ∧ (Ct ad μX12_sheet d [.ref (ad 187), .int (xs (x4 + (1 : Int32)).toNatClampNeg), .int (xs (x4 + (2 : Int32)).toNatClampNeg), .int (xs (x4 + (3 : Int32)).toNatClampNeg), .int (xs (x4 + (4 : Int32)).toNatClampNeg), .int (xs (x4 + (5 : Int32)).toNatClampNeg)] m1 (fun r m3 => ∃ v4 : Int32, r = some (.int v4) ∧ AWl LAY ad (EX (SX sb Ls xs) kc ks LAY) μL_law (d + 1) Q 23 [(0, .ref sb), (1, .ref (ad 0)), (2, .ref (ad 187)), (3, .ref (ad 217)), (4, .int (x4 + (6 : Int32)))] [] m3))))))))))))))) : AWl LAY ad (EX (SX sb Ls xs) (kc + 1) (ks + 6) LAY) μL_law (d + 1) Q 463 [(0, .ref sb), (1, .ref (ad 0)), (2, .ref (ad 187)), (3, .ref (ad 217)), (4, .int x4)] [] m := by
  refine aw_aload_n (j := 1) dL_law_463 rfl rfl ?_
  refine aw_aload_n (j := 0) dL_law_464 rfl rfl ?_
  refine aw_iload (j := 4) dL_law_465 rfl ?_
  refine aw_iconst (v := 1) dL_law_467 (by decide) ?_
  refine aw_iadd dL_law_468 ?_
  obtain ⟨hi, h⟩ := h
  refine aw_sld dL_law_469 hi ?_
  refine aw_aload_n (j := 0) dL_law_470 rfl rfl ?_
  refine aw_iload (j := 4) dL_law_471 rfl ?_
  refine aw_iconst (v := 2) dL_law_473 (by decide) ?_
  refine aw_iadd dL_law_474 ?_
  obtain ⟨hi, h⟩ := h
  refine aw_sld dL_law_475 hi ?_
  refine aw_aload_n (j := 0) dL_law_476 rfl rfl ?_
  refine aw_iload (j := 4) dL_law_477 rfl ?_
  refine aw_iconst (v := 3) dL_law_479 (by decide) ?_
  refine aw_iadd dL_law_480 ?_
  obtain ⟨hi, h⟩ := h
  refine aw_sld dL_law_481 hi ?_
  refine aw_aload_n (j := 0) dL_law_482 rfl rfl ?_
  refine aw_iload (j := 4) dL_law_483 rfl ?_
  refine aw_iconst (v := 4) dL_law_485 (by decide) ?_
  refine aw_iadd dL_law_486 ?_
  obtain ⟨hi, h⟩ := h
  refine aw_sld dL_law_487 hi ?_
  refine aw_aload_n (j := 0) dL_law_488 rfl rfl ?_
  refine aw_iload (j := 4) dL_law_489 rfl ?_
  refine aw_iconst (v := 5) dL_law_491 (by decide) ?_
  refine aw_iadd dL_law_492 ?_
  obtain ⟨hi, h⟩ := h
  refine aw_sld dL_law_493 hi ?_
  refine aw_callV (rest := []) [.int (xs (x4 + (1 : Int32)).toNatClampNeg), .int (xs (x4 + (2 : Int32)).toNatClampNeg), .int (xs (x4 + (3 : Int32)).toNatClampNeg), .int (xs (x4 + (4 : Int32)).toNatClampNeg), .int (xs (x4 + (5 : Int32)).toNatClampNeg)] dL_law_494 ly_0 rfl k_L_63 rfl h (Nat.le_of_ble_eq_true rfl) (fun v m1 h => ?_)
  obtain ⟨v2, rfl, h⟩ := h
  refine aw_eq (L' := [(0, .ref sb), (1, .ref (ad 0)), (2, .ref (ad 187)), (3, .ref (ad 217)), (4, .int x4)]) (st' := [.int v2]) (m' := m1) ?_ rfl rfl rfl
  refine aw_pop dL_law_497 rfl ?_
  refine aw_aload_n (j := 2) dL_law_498 rfl rfl ?_
  refine aw_aload_n (j := 0) dL_law_499 rfl rfl ?_
  refine aw_iload (j := 4) dL_law_500 rfl ?_
  refine aw_iconst (v := 1) dL_law_502 (by decide) ?_
  refine aw_iadd dL_law_503 ?_
  obtain ⟨hi, h⟩ := h
  refine aw_sld dL_law_504 hi ?_
  refine aw_aload_n (j := 0) dL_law_505 rfl rfl ?_
  refine aw_iload (j := 4) dL_law_506 rfl ?_
  refine aw_iconst (v := 2) dL_law_508 (by decide) ?_
  refine aw_iadd dL_law_509 ?_
  obtain ⟨hi, h⟩ := h
  refine aw_sld dL_law_510 hi ?_
  refine aw_aload_n (j := 0) dL_law_511 rfl rfl ?_
  refine aw_iload (j := 4) dL_law_512 rfl ?_
  refine aw_iconst (v := 3) dL_law_514 (by decide) ?_
  refine aw_iadd dL_law_515 ?_
  obtain ⟨hi, h⟩ := h
  refine aw_sld dL_law_516 hi ?_
  refine aw_aload_n (j := 0) dL_law_517 rfl rfl ?_
  refine aw_iload (j := 4) dL_law_518 rfl ?_
  refine aw_iconst (v := 4) dL_law_520 (by decide) ?_
  refine aw_iadd dL_law_521 ?_
  obtain ⟨hi, h⟩ := h
  refine aw_sld dL_law_522 hi ?_
  refine aw_aload_n (j := 0) dL_law_523 rfl rfl ?_
  refine aw_iload (j := 4) dL_law_524 rfl ?_
  refine aw_iconst (v := 5) dL_law_526 (by decide) ?_
  refine aw_iadd dL_law_527 ?_
  obtain ⟨hi, h⟩ := h
  refine aw_sld dL_law_528 hi ?_
  refine aw_callV (rest := []) [.int (xs (x4 + (1 : Int32)).toNatClampNeg), .int (xs (x4 + (2 : Int32)).toNatClampNeg), .int (xs (x4 + (3 : Int32)).toNatClampNeg), .int (xs (x4 + (4 : Int32)).toNatClampNeg), .int (xs (x4 + (5 : Int32)).toNatClampNeg)] dL_law_529 ly_187 rfl k_L_67 rfl h (Nat.le_of_ble_eq_true rfl) (fun v m3 h => ?_)
  obtain ⟨v4, rfl, h⟩ := h
  refine aw_eq (L' := [(0, .ref sb), (1, .ref (ad 0)), (2, .ref (ad 187)), (3, .ref (ad 217)), (4, .int x4)]) (st' := [.int v4]) (m' := m3) ?_ rfl rfl rfl
  refine aw_pop dL_law_532 rfl ?_
  refine aw_goto (tgt := 1550) dL_law_533 (by decide) ?_
  refine aw_iinc (j := 4) (v := x4 + (6 : Int32)) (L' := [(4, .int (x4 + (6 : Int32))), (0, .ref sb), (1, .ref (ad 0)), (2, .ref (ad 187)), (3, .ref (ad 217))]) dL_law_1550 rfl rfl (by decide) rfl ?_
  refine aw_goto (tgt := 23) dL_law_1553 (by decide) ?_
  exact aw_drop (Nat.le_succ _) (Nat.le_add_right _ _) (aw_sub [1, 2, 3, 4, 0] rfl h)
set_option maxRecDepth 100000 in
set_option maxHeartbeats 4000000 in
theorem g_L_law_536 {ad : Nat → Nat} {sb Ls kc ks : Nat} {xs : Nat → Int32} {d : Nat} {Q : Option Value → Wm → Prop} {m : Wm} {x4 : Int32} (h : (vp_in (x4 + (1 : Int32)) Ls ∧ (vp_in (x4 + (2 : Int32)) Ls ∧ (((xs (x4 + (2 : Int32)).toNatClampNeg) = 0 → (Ct ad μX11_ill d [.ref (ad 0), .int (xs (x4 + (1 : Int32)).toNatClampNeg), .int (0 : Int32)] m (fun r m1 => ∃ v2 : Int32, r = some (.int v2) ∧ (vp_in (x4 + (1 : Int32)) Ls ∧ (vp_in (x4 + (2 : Int32)) Ls ∧ (((xs (x4 + (2 : Int32)).toNatClampNeg) = 0 → (Ct ad μX12_ill d [.ref (ad 187), .int (xs (x4 + (1 : Int32)).toNatClampNeg), .int (0 : Int32)] m1 (fun r m3 => ∃ v4 : Int32, r = some (.int v4) ∧ AWl LAY ad (EX (SX sb Ls xs) kc ks LAY) μL_law (d + 1) Q 23 [(0, .ref sb), (1, .ref (ad 0)), (2, .ref (ad 187)), (3, .ref (ad 217)), (4, .int (x4 + (6 : Int32)))] [] m3))) ∧ (¬ (xs (x4 + (2 : Int32)).toNatClampNeg) = 0 → (Ct ad μX12_ill d [.ref (ad 187), .int (xs (x4 + (1 : Int32)).toNatClampNeg), .int (1 : Int32)] m1 (fun r m5 => ∃ v6 : Int32, r = some (.int v6) ∧ AWl LAY ad (EX (SX sb Ls xs) kc ks LAY) μL_law (d + 1) Q 23 [(0, .ref sb), (1, .ref (ad 0)), (2, .ref (ad 187)), (3, .ref (ad 217)), (4, .int (x4 + (6 : Int32)))] [] m5))))))))) ∧ (¬ (xs (x4 + (2 : Int32)).toNatClampNeg) = 0 → (Ct ad μX11_ill d [.ref (ad 0), .int (xs (x4 + (1 : Int32)).toNatClampNeg), .int (1 : Int32)] m (fun r m7 => ∃ v8 : Int32, r = some (.int v8) ∧ (vp_in (x4 + (1 : Int32)) Ls ∧ (vp_in (x4 + (2 : Int32)) Ls ∧ (((xs (x4 + (2 : Int32)).toNatClampNeg) = 0 → (Ct ad μX12_ill d [.ref (ad 187), .int (xs (x4 + (1 : Int32)).toNatClampNeg), .int (0 : Int32)] m7 (fun r m9 => ∃ v10 : Int32, r = some (.int v10) ∧ AWl LAY ad (EX (SX sb Ls xs) kc ks LAY) μL_law (d + 1) Q 23 [(0, .ref sb), (1, .ref (ad 0)), (2, .ref (ad 187)), (3, .ref (ad 217)), (4, .int (x4 + (6 : Int32)))] [] m9))) ∧ (¬ (xs (x4 + (2 : Int32)).toNatClampNeg) = 0 → (Ct ad μX12_ill d [.ref (ad 187), .int (xs (x4 + (1 : Int32)).toNatClampNeg), .int (1 : Int32)] m7 (fun r m11 => ∃ v12 : Int32, r = some (.int v12) ∧ AWl LAY ad (EX (SX sb Ls xs) kc ks LAY) μL_law (d + 1) Q 23 [(0, .ref sb), (1, .ref (ad 0)), (2, .ref (ad 187)), (3, .ref (ad 217)), (4, .int (x4 + (6 : Int32)))] [] m11))))))))))))) : AWl LAY ad (EX (SX sb Ls xs) (kc + 1) (ks + 6) LAY) μL_law (d + 1) Q 536 [(0, .ref sb), (1, .ref (ad 0)), (2, .ref (ad 187)), (3, .ref (ad 217)), (4, .int x4)] [] m := by
  refine aw_aload_n (j := 1) dL_law_536 rfl rfl ?_
  refine aw_aload_n (j := 0) dL_law_537 rfl rfl ?_
  refine aw_iload (j := 4) dL_law_538 rfl ?_
  refine aw_iconst (v := 1) dL_law_540 (by decide) ?_
  refine aw_iadd dL_law_541 ?_
  obtain ⟨hi, h⟩ := h
  refine aw_sld dL_law_542 hi ?_
  refine aw_aload_n (j := 0) dL_law_543 rfl rfl ?_
  refine aw_iload (j := 4) dL_law_544 rfl ?_
  refine aw_iconst (v := 2) dL_law_546 (by decide) ?_
  refine aw_iadd dL_law_547 ?_
  obtain ⟨hi, h⟩ := h
  refine aw_sld dL_law_548 hi ?_
  refine aw_if_eq (tgt := 556) dL_law_549 (by decide) (fun hc => ?_) (fun hc => ?_)
  · have h := h.1 hc
    refine aw_iconst (v := 0) dL_law_556 (by decide) ?_
    refine aw_callV (rest := []) [.int (xs (x4 + (1 : Int32)).toNatClampNeg), .int (0 : Int32)] dL_law_557 ly_0 rfl k_L_68 rfl h (Nat.le_of_ble_eq_true rfl) (fun v m1 h => ?_)
    obtain ⟨v2, rfl, h⟩ := h
    refine aw_eq (L' := [(0, .ref sb), (1, .ref (ad 0)), (2, .ref (ad 187)), (3, .ref (ad 217)), (4, .int x4)]) (st' := [.int v2]) (m' := m1) ?_ rfl rfl rfl
    refine aw_pop dL_law_560 rfl ?_
    refine aw_aload_n (j := 2) dL_law_561 rfl rfl ?_
    refine aw_aload_n (j := 0) dL_law_562 rfl rfl ?_
    refine aw_iload (j := 4) dL_law_563 rfl ?_
    refine aw_iconst (v := 1) dL_law_565 (by decide) ?_
    refine aw_iadd dL_law_566 ?_
    obtain ⟨hi, h⟩ := h
    refine aw_sld dL_law_567 hi ?_
    refine aw_aload_n (j := 0) dL_law_568 rfl rfl ?_
    refine aw_iload (j := 4) dL_law_569 rfl ?_
    refine aw_iconst (v := 2) dL_law_571 (by decide) ?_
    refine aw_iadd dL_law_572 ?_
    obtain ⟨hi, h⟩ := h
    refine aw_sld dL_law_573 hi ?_
    refine aw_if_eq (tgt := 581) dL_law_574 (by decide) (fun hc => ?_) (fun hc => ?_)
    · have h := h.1 hc
      refine aw_iconst (v := 0) dL_law_581 (by decide) ?_
      refine aw_callV (rest := []) [.int (xs (x4 + (1 : Int32)).toNatClampNeg), .int (0 : Int32)] dL_law_582 ly_187 rfl k_L_72 rfl h (Nat.le_of_ble_eq_true rfl) (fun v m3 h => ?_)
      obtain ⟨v4, rfl, h⟩ := h
      refine aw_eq (L' := [(0, .ref sb), (1, .ref (ad 0)), (2, .ref (ad 187)), (3, .ref (ad 217)), (4, .int x4)]) (st' := [.int v4]) (m' := m3) ?_ rfl rfl rfl
      refine aw_pop dL_law_585 rfl ?_
      refine aw_goto (tgt := 1550) dL_law_586 (by decide) ?_
      refine aw_iinc (j := 4) (v := x4 + (6 : Int32)) (L' := [(4, .int (x4 + (6 : Int32))), (0, .ref sb), (1, .ref (ad 0)), (2, .ref (ad 187)), (3, .ref (ad 217))]) dL_law_1550 rfl rfl (by decide) rfl ?_
      refine aw_goto (tgt := 23) dL_law_1553 (by decide) ?_
      exact aw_drop (Nat.le_succ _) (Nat.le_add_right _ _) (aw_sub [1, 2, 3, 4, 0] rfl h)
    · have h := h.2 hc
      refine aw_iconst (v := 1) dL_law_577 (by decide) ?_
      refine aw_goto (tgt := 582) dL_law_578 (by decide) ?_
      refine aw_callV (rest := []) [.int (xs (x4 + (1 : Int32)).toNatClampNeg), .int (1 : Int32)] dL_law_582 ly_187 rfl k_L_72 rfl h (Nat.le_of_ble_eq_true rfl) (fun v m5 h => ?_)
      obtain ⟨v6, rfl, h⟩ := h
      refine aw_eq (L' := [(0, .ref sb), (1, .ref (ad 0)), (2, .ref (ad 187)), (3, .ref (ad 217)), (4, .int x4)]) (st' := [.int v6]) (m' := m5) ?_ rfl rfl rfl
      refine aw_pop dL_law_585 rfl ?_
      refine aw_goto (tgt := 1550) dL_law_586 (by decide) ?_
      refine aw_iinc (j := 4) (v := x4 + (6 : Int32)) (L' := [(4, .int (x4 + (6 : Int32))), (0, .ref sb), (1, .ref (ad 0)), (2, .ref (ad 187)), (3, .ref (ad 217))]) dL_law_1550 rfl rfl (by decide) rfl ?_
      refine aw_goto (tgt := 23) dL_law_1553 (by decide) ?_
      exact aw_drop (Nat.le_succ _) (Nat.le_add_right _ _) (aw_sub [1, 2, 3, 4, 0] rfl h)
  · have h := h.2 hc
    refine aw_iconst (v := 1) dL_law_552 (by decide) ?_
    refine aw_goto (tgt := 557) dL_law_553 (by decide) ?_
    refine aw_callV (rest := []) [.int (xs (x4 + (1 : Int32)).toNatClampNeg), .int (1 : Int32)] dL_law_557 ly_0 rfl k_L_68 rfl h (Nat.le_of_ble_eq_true rfl) (fun v m7 h => ?_)
    obtain ⟨v8, rfl, h⟩ := h
    refine aw_eq (L' := [(0, .ref sb), (1, .ref (ad 0)), (2, .ref (ad 187)), (3, .ref (ad 217)), (4, .int x4)]) (st' := [.int v8]) (m' := m7) ?_ rfl rfl rfl
    refine aw_pop dL_law_560 rfl ?_
    refine aw_aload_n (j := 2) dL_law_561 rfl rfl ?_
    refine aw_aload_n (j := 0) dL_law_562 rfl rfl ?_
    refine aw_iload (j := 4) dL_law_563 rfl ?_
    refine aw_iconst (v := 1) dL_law_565 (by decide) ?_
    refine aw_iadd dL_law_566 ?_
    obtain ⟨hi, h⟩ := h
    refine aw_sld dL_law_567 hi ?_
    refine aw_aload_n (j := 0) dL_law_568 rfl rfl ?_
    refine aw_iload (j := 4) dL_law_569 rfl ?_
    refine aw_iconst (v := 2) dL_law_571 (by decide) ?_
    refine aw_iadd dL_law_572 ?_
    obtain ⟨hi, h⟩ := h
    refine aw_sld dL_law_573 hi ?_
    refine aw_if_eq (tgt := 581) dL_law_574 (by decide) (fun hc => ?_) (fun hc => ?_)
    · have h := h.1 hc
      refine aw_iconst (v := 0) dL_law_581 (by decide) ?_
      refine aw_callV (rest := []) [.int (xs (x4 + (1 : Int32)).toNatClampNeg), .int (0 : Int32)] dL_law_582 ly_187 rfl k_L_72 rfl h (Nat.le_of_ble_eq_true rfl) (fun v m9 h => ?_)
      obtain ⟨v10, rfl, h⟩ := h
      refine aw_eq (L' := [(0, .ref sb), (1, .ref (ad 0)), (2, .ref (ad 187)), (3, .ref (ad 217)), (4, .int x4)]) (st' := [.int v10]) (m' := m9) ?_ rfl rfl rfl
      refine aw_pop dL_law_585 rfl ?_
      refine aw_goto (tgt := 1550) dL_law_586 (by decide) ?_
      refine aw_iinc (j := 4) (v := x4 + (6 : Int32)) (L' := [(4, .int (x4 + (6 : Int32))), (0, .ref sb), (1, .ref (ad 0)), (2, .ref (ad 187)), (3, .ref (ad 217))]) dL_law_1550 rfl rfl (by decide) rfl ?_
      refine aw_goto (tgt := 23) dL_law_1553 (by decide) ?_
      exact aw_drop (Nat.le_succ _) (Nat.le_add_right _ _) (aw_sub [1, 2, 3, 4, 0] rfl h)
    · have h := h.2 hc
      refine aw_iconst (v := 1) dL_law_577 (by decide) ?_
      refine aw_goto (tgt := 582) dL_law_578 (by decide) ?_
      refine aw_callV (rest := []) [.int (xs (x4 + (1 : Int32)).toNatClampNeg), .int (1 : Int32)] dL_law_582 ly_187 rfl k_L_72 rfl h (Nat.le_of_ble_eq_true rfl) (fun v m11 h => ?_)
      obtain ⟨v12, rfl, h⟩ := h
      refine aw_eq (L' := [(0, .ref sb), (1, .ref (ad 0)), (2, .ref (ad 187)), (3, .ref (ad 217)), (4, .int x4)]) (st' := [.int v12]) (m' := m11) ?_ rfl rfl rfl
      refine aw_pop dL_law_585 rfl ?_
      refine aw_goto (tgt := 1550) dL_law_586 (by decide) ?_
      refine aw_iinc (j := 4) (v := x4 + (6 : Int32)) (L' := [(4, .int (x4 + (6 : Int32))), (0, .ref sb), (1, .ref (ad 0)), (2, .ref (ad 187)), (3, .ref (ad 217))]) dL_law_1550 rfl rfl (by decide) rfl ?_
      refine aw_goto (tgt := 23) dL_law_1553 (by decide) ?_
      exact aw_drop (Nat.le_succ _) (Nat.le_add_right _ _) (aw_sub [1, 2, 3, 4, 0] rfl h)
set_option maxRecDepth 100000 in
set_option maxHeartbeats 4000000 in
theorem g_L_law_589 {ad : Nat → Nat} {sb Ls kc ks : Nat} {xs : Nat → Int32} {d : Nat} {Q : Option Value → Wm → Prop} {m : Wm} {x4 : Int32} (h : (vp_in (x4 + (1 : Int32)) Ls ∧ (vp_in (x4 + (2 : Int32)) Ls ∧ (Ct ad μX11_swap d [.ref (ad 0), .int (xs (x4 + (1 : Int32)).toNatClampNeg), .int (xs (x4 + (2 : Int32)).toNatClampNeg)] m (fun r m1 => ∃ v2 : Int32, r = some (.int v2) ∧ (vp_in (x4 + (1 : Int32)) Ls ∧ (vp_in (x4 + (2 : Int32)) Ls ∧ (Ct ad μX12_swap d [.ref (ad 187), .int (xs (x4 + (1 : Int32)).toNatClampNeg), .int (xs (x4 + (2 : Int32)).toNatClampNeg)] m1 (fun r m3 => ∃ v4 : Int32, r = some (.int v4) ∧ AWl LAY ad (EX (SX sb Ls xs) kc ks LAY) μL_law (d + 1) Q 23 [(0, .ref sb), (1, .ref (ad 0)), (2, .ref (ad 187)), (3, .ref (ad 217)), (4, .int (x4 + (6 : Int32)))] [] m3))))))))) : AWl LAY ad (EX (SX sb Ls xs) (kc + 1) (ks + 6) LAY) μL_law (d + 1) Q 589 [(0, .ref sb), (1, .ref (ad 0)), (2, .ref (ad 187)), (3, .ref (ad 217)), (4, .int x4)] [] m := by
  refine aw_aload_n (j := 1) dL_law_589 rfl rfl ?_
  refine aw_aload_n (j := 0) dL_law_590 rfl rfl ?_
  refine aw_iload (j := 4) dL_law_591 rfl ?_
  refine aw_iconst (v := 1) dL_law_593 (by decide) ?_
  refine aw_iadd dL_law_594 ?_
  obtain ⟨hi, h⟩ := h
  refine aw_sld dL_law_595 hi ?_
  refine aw_aload_n (j := 0) dL_law_596 rfl rfl ?_
  refine aw_iload (j := 4) dL_law_597 rfl ?_
  refine aw_iconst (v := 2) dL_law_599 (by decide) ?_
  refine aw_iadd dL_law_600 ?_
  obtain ⟨hi, h⟩ := h
  refine aw_sld dL_law_601 hi ?_
  refine aw_callV (rest := []) [.int (xs (x4 + (1 : Int32)).toNatClampNeg), .int (xs (x4 + (2 : Int32)).toNatClampNeg)] dL_law_602 ly_0 rfl k_L_73 rfl h (Nat.le_of_ble_eq_true rfl) (fun v m1 h => ?_)
  obtain ⟨v2, rfl, h⟩ := h
  refine aw_eq (L' := [(0, .ref sb), (1, .ref (ad 0)), (2, .ref (ad 187)), (3, .ref (ad 217)), (4, .int x4)]) (st' := [.int v2]) (m' := m1) ?_ rfl rfl rfl
  refine aw_pop dL_law_605 rfl ?_
  refine aw_aload_n (j := 2) dL_law_606 rfl rfl ?_
  refine aw_aload_n (j := 0) dL_law_607 rfl rfl ?_
  refine aw_iload (j := 4) dL_law_608 rfl ?_
  refine aw_iconst (v := 1) dL_law_610 (by decide) ?_
  refine aw_iadd dL_law_611 ?_
  obtain ⟨hi, h⟩ := h
  refine aw_sld dL_law_612 hi ?_
  refine aw_aload_n (j := 0) dL_law_613 rfl rfl ?_
  refine aw_iload (j := 4) dL_law_614 rfl ?_
  refine aw_iconst (v := 2) dL_law_616 (by decide) ?_
  refine aw_iadd dL_law_617 ?_
  obtain ⟨hi, h⟩ := h
  refine aw_sld dL_law_618 hi ?_
  refine aw_callV (rest := []) [.int (xs (x4 + (1 : Int32)).toNatClampNeg), .int (xs (x4 + (2 : Int32)).toNatClampNeg)] dL_law_619 ly_187 rfl k_L_77 rfl h (Nat.le_of_ble_eq_true rfl) (fun v m3 h => ?_)
  obtain ⟨v4, rfl, h⟩ := h
  refine aw_eq (L' := [(0, .ref sb), (1, .ref (ad 0)), (2, .ref (ad 187)), (3, .ref (ad 217)), (4, .int x4)]) (st' := [.int v4]) (m' := m3) ?_ rfl rfl rfl
  refine aw_pop dL_law_622 rfl ?_
  refine aw_goto (tgt := 1550) dL_law_623 (by decide) ?_
  refine aw_iinc (j := 4) (v := x4 + (6 : Int32)) (L' := [(4, .int (x4 + (6 : Int32))), (0, .ref sb), (1, .ref (ad 0)), (2, .ref (ad 187)), (3, .ref (ad 217))]) dL_law_1550 rfl rfl (by decide) rfl ?_
  refine aw_goto (tgt := 23) dL_law_1553 (by decide) ?_
  exact aw_drop (Nat.le_succ _) (Nat.le_add_right _ _) (aw_sub [1, 2, 3, 4, 0] rfl h)
set_option maxRecDepth 100000 in
set_option maxHeartbeats 4000000 in
theorem g_L_law_626 {ad : Nat → Nat} {sb Ls kc ks : Nat} {xs : Nat → Int32} {d : Nat} {Q : Option Value → Wm → Prop} {m : Wm} {x4 : Int32} (h : (Ct ad μX11_circle d [.ref (ad 0)] m (fun r m1 => ∃ v2 : Int32, r = some (.int v2) ∧ (Ct ad μX12_circle d [.ref (ad 187)] m1 (fun r m3 => ∃ v4 : Int32, r = some (.int v4) ∧ AWl LAY ad (EX (SX sb Ls xs) kc ks LAY) μL_law (d + 1) Q 23 [(0, .ref sb), (1, .ref (ad 0)), (2, .ref (ad 187)), (3, .ref (ad 217)), (4, .int (x4 + (6 : Int32)))] [] m3))))) : AWl LAY ad (EX (SX sb Ls xs) (kc + 1) (ks + 6) LAY) μL_law (d + 1) Q 626 [(0, .ref sb), (1, .ref (ad 0)), (2, .ref (ad 187)), (3, .ref (ad 217)), (4, .int x4)] [] m := by
  refine aw_aload_n (j := 1) dL_law_626 rfl rfl ?_
  refine aw_callV (rest := []) [] dL_law_627 ly_0 rfl k_L_78 rfl h (Nat.le_of_ble_eq_true rfl) (fun v m1 h => ?_)
  obtain ⟨v2, rfl, h⟩ := h
  refine aw_eq (L' := [(0, .ref sb), (1, .ref (ad 0)), (2, .ref (ad 187)), (3, .ref (ad 217)), (4, .int x4)]) (st' := [.int v2]) (m' := m1) ?_ rfl rfl rfl
  refine aw_pop dL_law_630 rfl ?_
  refine aw_aload_n (j := 2) dL_law_631 rfl rfl ?_
  refine aw_callV (rest := []) [] dL_law_632 ly_187 rfl k_L_81 rfl h (Nat.le_of_ble_eq_true rfl) (fun v m3 h => ?_)
  obtain ⟨v4, rfl, h⟩ := h
  refine aw_eq (L' := [(0, .ref sb), (1, .ref (ad 0)), (2, .ref (ad 187)), (3, .ref (ad 217)), (4, .int x4)]) (st' := [.int v4]) (m' := m3) ?_ rfl rfl rfl
  refine aw_pop dL_law_635 rfl ?_
  refine aw_goto (tgt := 1550) dL_law_636 (by decide) ?_
  refine aw_iinc (j := 4) (v := x4 + (6 : Int32)) (L' := [(4, .int (x4 + (6 : Int32))), (0, .ref sb), (1, .ref (ad 0)), (2, .ref (ad 187)), (3, .ref (ad 217))]) dL_law_1550 rfl rfl (by decide) rfl ?_
  refine aw_goto (tgt := 23) dL_law_1553 (by decide) ?_
  exact aw_drop (Nat.le_succ _) (Nat.le_add_right _ _) (aw_sub [1, 2, 3, 4, 0] rfl h)
set_option maxRecDepth 100000 in
set_option maxHeartbeats 4000000 in
theorem g_L_law_639 {ad : Nat → Nat} {sb Ls kc ks : Nat} {xs : Nat → Int32} {d : Nat} {Q : Option Value → Wm → Prop} {m : Wm} {x4 : Int32} (h : (vp_in (x4 + (1 : Int32)) Ls ∧ (vp_in (x4 + (2 : Int32)) Ls ∧ (vp_in (x4 + (3 : Int32)) Ls ∧ (Ct ad μX11_game d [.ref (ad 0), .int (xs (x4 + (1 : Int32)).toNatClampNeg), .int (xs (x4 + (2 : Int32)).toNatClampNeg), .int (xs (x4 + (3 : Int32)).toNatClampNeg)] m (fun r m1 => ∃ v2 : Int32, r = some (.int v2) ∧ (vp_in (x4 + (1 : Int32)) Ls ∧ (vp_in (x4 + (2 : Int32)) Ls ∧ (vp_in (x4 + (3 : Int32)) Ls ∧ (Ct ad μX12_game d [.ref (ad 187), .int (xs (x4 + (1 : Int32)).toNatClampNeg), .int (xs (x4 + (2 : Int32)).toNatClampNeg), .int (xs (x4 + (3 : Int32)).toNatClampNeg)] m1 (fun r m3 => ∃ v4 : Int32, r = some (.int v4) ∧ AWl LAY ad (EX (SX sb Ls xs) kc ks LAY) μL_law (d + 1) Q 23 [(0, .ref sb), (1, .ref (ad 0)), (2, .ref (ad 187)), (3, .ref (ad 217)), (4, .int (x4 + (6 : Int32)))] [] m3))))))))))) : AWl LAY ad (EX (SX sb Ls xs) (kc + 1) (ks + 6) LAY) μL_law (d + 1) Q 639 [(0, .ref sb), (1, .ref (ad 0)), (2, .ref (ad 187)), (3, .ref (ad 217)), (4, .int x4)] [] m := by
  refine aw_aload_n (j := 1) dL_law_639 rfl rfl ?_
  refine aw_aload_n (j := 0) dL_law_640 rfl rfl ?_
  refine aw_iload (j := 4) dL_law_641 rfl ?_
  refine aw_iconst (v := 1) dL_law_643 (by decide) ?_
  refine aw_iadd dL_law_644 ?_
  obtain ⟨hi, h⟩ := h
  refine aw_sld dL_law_645 hi ?_
  refine aw_aload_n (j := 0) dL_law_646 rfl rfl ?_
  refine aw_iload (j := 4) dL_law_647 rfl ?_
  refine aw_iconst (v := 2) dL_law_649 (by decide) ?_
  refine aw_iadd dL_law_650 ?_
  obtain ⟨hi, h⟩ := h
  refine aw_sld dL_law_651 hi ?_
  refine aw_aload_n (j := 0) dL_law_652 rfl rfl ?_
  refine aw_iload (j := 4) dL_law_653 rfl ?_
  refine aw_iconst (v := 3) dL_law_655 (by decide) ?_
  refine aw_iadd dL_law_656 ?_
  obtain ⟨hi, h⟩ := h
  refine aw_sld dL_law_657 hi ?_
  refine aw_callV (rest := []) [.int (xs (x4 + (1 : Int32)).toNatClampNeg), .int (xs (x4 + (2 : Int32)).toNatClampNeg), .int (xs (x4 + (3 : Int32)).toNatClampNeg)] dL_law_658 ly_0 rfl k_L_82 rfl h (Nat.le_of_ble_eq_true rfl) (fun v m1 h => ?_)
  obtain ⟨v2, rfl, h⟩ := h
  refine aw_eq (L' := [(0, .ref sb), (1, .ref (ad 0)), (2, .ref (ad 187)), (3, .ref (ad 217)), (4, .int x4)]) (st' := [.int v2]) (m' := m1) ?_ rfl rfl rfl
  refine aw_pop dL_law_661 rfl ?_
  refine aw_aload_n (j := 2) dL_law_662 rfl rfl ?_
  refine aw_aload_n (j := 0) dL_law_663 rfl rfl ?_
  refine aw_iload (j := 4) dL_law_664 rfl ?_
  refine aw_iconst (v := 1) dL_law_666 (by decide) ?_
  refine aw_iadd dL_law_667 ?_
  obtain ⟨hi, h⟩ := h
  refine aw_sld dL_law_668 hi ?_
  refine aw_aload_n (j := 0) dL_law_669 rfl rfl ?_
  refine aw_iload (j := 4) dL_law_670 rfl ?_
  refine aw_iconst (v := 2) dL_law_672 (by decide) ?_
  refine aw_iadd dL_law_673 ?_
  obtain ⟨hi, h⟩ := h
  refine aw_sld dL_law_674 hi ?_
  refine aw_aload_n (j := 0) dL_law_675 rfl rfl ?_
  refine aw_iload (j := 4) dL_law_676 rfl ?_
  refine aw_iconst (v := 3) dL_law_678 (by decide) ?_
  refine aw_iadd dL_law_679 ?_
  obtain ⟨hi, h⟩ := h
  refine aw_sld dL_law_680 hi ?_
  refine aw_callV (rest := []) [.int (xs (x4 + (1 : Int32)).toNatClampNeg), .int (xs (x4 + (2 : Int32)).toNatClampNeg), .int (xs (x4 + (3 : Int32)).toNatClampNeg)] dL_law_681 ly_187 rfl k_L_86 rfl h (Nat.le_of_ble_eq_true rfl) (fun v m3 h => ?_)
  obtain ⟨v4, rfl, h⟩ := h
  refine aw_eq (L' := [(0, .ref sb), (1, .ref (ad 0)), (2, .ref (ad 187)), (3, .ref (ad 217)), (4, .int x4)]) (st' := [.int v4]) (m' := m3) ?_ rfl rfl rfl
  refine aw_pop dL_law_684 rfl ?_
  refine aw_goto (tgt := 1550) dL_law_685 (by decide) ?_
  refine aw_iinc (j := 4) (v := x4 + (6 : Int32)) (L' := [(4, .int (x4 + (6 : Int32))), (0, .ref sb), (1, .ref (ad 0)), (2, .ref (ad 187)), (3, .ref (ad 217))]) dL_law_1550 rfl rfl (by decide) rfl ?_
  refine aw_goto (tgt := 23) dL_law_1553 (by decide) ?_
  exact aw_drop (Nat.le_succ _) (Nat.le_add_right _ _) (aw_sub [1, 2, 3, 4, 0] rfl h)
set_option maxRecDepth 100000 in
set_option maxHeartbeats 4000000 in
theorem g_L_law_688 {ad : Nat → Nat} {sb Ls kc ks : Nat} {xs : Nat → Int32} {d : Nat} {Q : Option Value → Wm → Prop} {m : Wm} {x4 : Int32} (h : (vp_in (x4 + (1 : Int32)) Ls ∧ (vp_in (x4 + (2 : Int32)) Ls ∧ (Ct ad μX11_odds d [.ref (ad 0), .int (xs (x4 + (1 : Int32)).toNatClampNeg), .int (xs (x4 + (2 : Int32)).toNatClampNeg)] m (fun r m1 => ∃ v2 : Int32, r = some (.int v2) ∧ (vp_in (x4 + (1 : Int32)) Ls ∧ (vp_in (x4 + (2 : Int32)) Ls ∧ (Ct ad μX12_odds d [.ref (ad 187), .int (xs (x4 + (1 : Int32)).toNatClampNeg), .int (xs (x4 + (2 : Int32)).toNatClampNeg)] m1 (fun r m3 => ∃ v4 : Int32, r = some (.int v4) ∧ AWl LAY ad (EX (SX sb Ls xs) kc ks LAY) μL_law (d + 1) Q 23 [(0, .ref sb), (1, .ref (ad 0)), (2, .ref (ad 187)), (3, .ref (ad 217)), (4, .int (x4 + (6 : Int32)))] [] m3))))))))) : AWl LAY ad (EX (SX sb Ls xs) (kc + 1) (ks + 6) LAY) μL_law (d + 1) Q 688 [(0, .ref sb), (1, .ref (ad 0)), (2, .ref (ad 187)), (3, .ref (ad 217)), (4, .int x4)] [] m := by
  refine aw_aload_n (j := 1) dL_law_688 rfl rfl ?_
  refine aw_aload_n (j := 0) dL_law_689 rfl rfl ?_
  refine aw_iload (j := 4) dL_law_690 rfl ?_
  refine aw_iconst (v := 1) dL_law_692 (by decide) ?_
  refine aw_iadd dL_law_693 ?_
  obtain ⟨hi, h⟩ := h
  refine aw_sld dL_law_694 hi ?_
  refine aw_aload_n (j := 0) dL_law_695 rfl rfl ?_
  refine aw_iload (j := 4) dL_law_696 rfl ?_
  refine aw_iconst (v := 2) dL_law_698 (by decide) ?_
  refine aw_iadd dL_law_699 ?_
  obtain ⟨hi, h⟩ := h
  refine aw_sld dL_law_700 hi ?_
  refine aw_callV (rest := []) [.int (xs (x4 + (1 : Int32)).toNatClampNeg), .int (xs (x4 + (2 : Int32)).toNatClampNeg)] dL_law_701 ly_0 rfl k_L_87 rfl h (Nat.le_of_ble_eq_true rfl) (fun v m1 h => ?_)
  obtain ⟨v2, rfl, h⟩ := h
  refine aw_eq (L' := [(0, .ref sb), (1, .ref (ad 0)), (2, .ref (ad 187)), (3, .ref (ad 217)), (4, .int x4)]) (st' := [.int v2]) (m' := m1) ?_ rfl rfl rfl
  refine aw_pop dL_law_704 rfl ?_
  refine aw_aload_n (j := 2) dL_law_705 rfl rfl ?_
  refine aw_aload_n (j := 0) dL_law_706 rfl rfl ?_
  refine aw_iload (j := 4) dL_law_707 rfl ?_
  refine aw_iconst (v := 1) dL_law_709 (by decide) ?_
  refine aw_iadd dL_law_710 ?_
  obtain ⟨hi, h⟩ := h
  refine aw_sld dL_law_711 hi ?_
  refine aw_aload_n (j := 0) dL_law_712 rfl rfl ?_
  refine aw_iload (j := 4) dL_law_713 rfl ?_
  refine aw_iconst (v := 2) dL_law_715 (by decide) ?_
  refine aw_iadd dL_law_716 ?_
  obtain ⟨hi, h⟩ := h
  refine aw_sld dL_law_717 hi ?_
  refine aw_callV (rest := []) [.int (xs (x4 + (1 : Int32)).toNatClampNeg), .int (xs (x4 + (2 : Int32)).toNatClampNeg)] dL_law_718 ly_187 rfl k_L_90 rfl h (Nat.le_of_ble_eq_true rfl) (fun v m3 h => ?_)
  obtain ⟨v4, rfl, h⟩ := h
  refine aw_eq (L' := [(0, .ref sb), (1, .ref (ad 0)), (2, .ref (ad 187)), (3, .ref (ad 217)), (4, .int x4)]) (st' := [.int v4]) (m' := m3) ?_ rfl rfl rfl
  refine aw_pop dL_law_721 rfl ?_
  refine aw_goto (tgt := 1550) dL_law_722 (by decide) ?_
  refine aw_iinc (j := 4) (v := x4 + (6 : Int32)) (L' := [(4, .int (x4 + (6 : Int32))), (0, .ref sb), (1, .ref (ad 0)), (2, .ref (ad 187)), (3, .ref (ad 217))]) dL_law_1550 rfl rfl (by decide) rfl ?_
  refine aw_goto (tgt := 23) dL_law_1553 (by decide) ?_
  exact aw_drop (Nat.le_succ _) (Nat.le_add_right _ _) (aw_sub [1, 2, 3, 4, 0] rfl h)
set_option maxRecDepth 100000 in
set_option maxHeartbeats 4000000 in
theorem g_L_law_725 {ad : Nat → Nat} {sb Ls kc ks : Nat} {xs : Nat → Int32} {d : Nat} {Q : Option Value → Wm → Prop} {m : Wm} {x4 : Int32} (h : (vp_in (x4 + (1 : Int32)) Ls ∧ (vp_in (x4 + (2 : Int32)) Ls ∧ (vp_in (x4 + (3 : Int32)) Ls ∧ (Ct ad μX11_play d [.ref (ad 0), .int (xs (x4 + (1 : Int32)).toNatClampNeg), .int (xs (x4 + (2 : Int32)).toNatClampNeg), .int (xs (x4 + (3 : Int32)).toNatClampNeg)] m (fun r m1 => ∃ v2 : Int32, r = some (.int v2) ∧ (vp_in (x4 + (1 : Int32)) Ls ∧ (vp_in (x4 + (2 : Int32)) Ls ∧ (vp_in (x4 + (3 : Int32)) Ls ∧ (Ct ad μX12_play d [.ref (ad 187), .int (xs (x4 + (1 : Int32)).toNatClampNeg), .int (xs (x4 + (2 : Int32)).toNatClampNeg), .int (xs (x4 + (3 : Int32)).toNatClampNeg)] m1 (fun r m3 => ∃ v4 : Int32, r = some (.int v4) ∧ AWl LAY ad (EX (SX sb Ls xs) kc ks LAY) μL_law (d + 1) Q 23 [(0, .ref sb), (1, .ref (ad 0)), (2, .ref (ad 187)), (3, .ref (ad 217)), (4, .int (x4 + (6 : Int32)))] [] m3))))))))))) : AWl LAY ad (EX (SX sb Ls xs) (kc + 1) (ks + 6) LAY) μL_law (d + 1) Q 725 [(0, .ref sb), (1, .ref (ad 0)), (2, .ref (ad 187)), (3, .ref (ad 217)), (4, .int x4)] [] m := by
  refine aw_aload_n (j := 1) dL_law_725 rfl rfl ?_
  refine aw_aload_n (j := 0) dL_law_726 rfl rfl ?_
  refine aw_iload (j := 4) dL_law_727 rfl ?_
  refine aw_iconst (v := 1) dL_law_729 (by decide) ?_
  refine aw_iadd dL_law_730 ?_
  obtain ⟨hi, h⟩ := h
  refine aw_sld dL_law_731 hi ?_
  refine aw_aload_n (j := 0) dL_law_732 rfl rfl ?_
  refine aw_iload (j := 4) dL_law_733 rfl ?_
  refine aw_iconst (v := 2) dL_law_735 (by decide) ?_
  refine aw_iadd dL_law_736 ?_
  obtain ⟨hi, h⟩ := h
  refine aw_sld dL_law_737 hi ?_
  refine aw_aload_n (j := 0) dL_law_738 rfl rfl ?_
  refine aw_iload (j := 4) dL_law_739 rfl ?_
  refine aw_iconst (v := 3) dL_law_741 (by decide) ?_
  refine aw_iadd dL_law_742 ?_
  obtain ⟨hi, h⟩ := h
  refine aw_sld dL_law_743 hi ?_
  refine aw_callV (rest := []) [.int (xs (x4 + (1 : Int32)).toNatClampNeg), .int (xs (x4 + (2 : Int32)).toNatClampNeg), .int (xs (x4 + (3 : Int32)).toNatClampNeg)] dL_law_744 ly_0 rfl k_L_91 rfl h (Nat.le_of_ble_eq_true rfl) (fun v m1 h => ?_)
  obtain ⟨v2, rfl, h⟩ := h
  refine aw_eq (L' := [(0, .ref sb), (1, .ref (ad 0)), (2, .ref (ad 187)), (3, .ref (ad 217)), (4, .int x4)]) (st' := [.int v2]) (m' := m1) ?_ rfl rfl rfl
  refine aw_pop dL_law_747 rfl ?_
  refine aw_aload_n (j := 2) dL_law_748 rfl rfl ?_
  refine aw_aload_n (j := 0) dL_law_749 rfl rfl ?_
  refine aw_iload (j := 4) dL_law_750 rfl ?_
  refine aw_iconst (v := 1) dL_law_752 (by decide) ?_
  refine aw_iadd dL_law_753 ?_
  obtain ⟨hi, h⟩ := h
  refine aw_sld dL_law_754 hi ?_
  refine aw_aload_n (j := 0) dL_law_755 rfl rfl ?_
  refine aw_iload (j := 4) dL_law_756 rfl ?_
  refine aw_iconst (v := 2) dL_law_758 (by decide) ?_
  refine aw_iadd dL_law_759 ?_
  obtain ⟨hi, h⟩ := h
  refine aw_sld dL_law_760 hi ?_
  refine aw_aload_n (j := 0) dL_law_761 rfl rfl ?_
  refine aw_iload (j := 4) dL_law_762 rfl ?_
  refine aw_iconst (v := 3) dL_law_764 (by decide) ?_
  refine aw_iadd dL_law_765 ?_
  obtain ⟨hi, h⟩ := h
  refine aw_sld dL_law_766 hi ?_
  refine aw_callV (rest := []) [.int (xs (x4 + (1 : Int32)).toNatClampNeg), .int (xs (x4 + (2 : Int32)).toNatClampNeg), .int (xs (x4 + (3 : Int32)).toNatClampNeg)] dL_law_767 ly_187 rfl k_L_94 rfl h (Nat.le_of_ble_eq_true rfl) (fun v m3 h => ?_)
  obtain ⟨v4, rfl, h⟩ := h
  refine aw_eq (L' := [(0, .ref sb), (1, .ref (ad 0)), (2, .ref (ad 187)), (3, .ref (ad 217)), (4, .int x4)]) (st' := [.int v4]) (m' := m3) ?_ rfl rfl rfl
  refine aw_pop dL_law_770 rfl ?_
  refine aw_goto (tgt := 1550) dL_law_771 (by decide) ?_
  refine aw_iinc (j := 4) (v := x4 + (6 : Int32)) (L' := [(4, .int (x4 + (6 : Int32))), (0, .ref sb), (1, .ref (ad 0)), (2, .ref (ad 187)), (3, .ref (ad 217))]) dL_law_1550 rfl rfl (by decide) rfl ?_
  refine aw_goto (tgt := 23) dL_law_1553 (by decide) ?_
  exact aw_drop (Nat.le_succ _) (Nat.le_add_right _ _) (aw_sub [1, 2, 3, 4, 0] rfl h)
set_option maxRecDepth 100000 in
set_option maxHeartbeats 4000000 in
theorem g_L_law_774 {ad : Nat → Nat} {sb Ls kc ks : Nat} {xs : Nat → Int32} {d : Nat} {Q : Option Value → Wm → Prop} {m : Wm} {x4 : Int32} (h : (Ct ad μX11_undo d [.ref (ad 0)] m (fun r m1 => ∃ v2 : Int32, r = some (.int v2) ∧ (Ct ad μX12_undo d [.ref (ad 187)] m1 (fun r m3 => ∃ v4 : Int32, r = some (.int v4) ∧ AWl LAY ad (EX (SX sb Ls xs) kc ks LAY) μL_law (d + 1) Q 23 [(0, .ref sb), (1, .ref (ad 0)), (2, .ref (ad 187)), (3, .ref (ad 217)), (4, .int (x4 + (6 : Int32)))] [] m3))))) : AWl LAY ad (EX (SX sb Ls xs) (kc + 1) (ks + 6) LAY) μL_law (d + 1) Q 774 [(0, .ref sb), (1, .ref (ad 0)), (2, .ref (ad 187)), (3, .ref (ad 217)), (4, .int x4)] [] m := by
  refine aw_aload_n (j := 1) dL_law_774 rfl rfl ?_
  refine aw_callV (rest := []) [] dL_law_775 ly_0 rfl k_L_95 rfl h (Nat.le_of_ble_eq_true rfl) (fun v m1 h => ?_)
  obtain ⟨v2, rfl, h⟩ := h
  refine aw_eq (L' := [(0, .ref sb), (1, .ref (ad 0)), (2, .ref (ad 187)), (3, .ref (ad 217)), (4, .int x4)]) (st' := [.int v2]) (m' := m1) ?_ rfl rfl rfl
  refine aw_pop dL_law_778 rfl ?_
  refine aw_aload_n (j := 2) dL_law_779 rfl rfl ?_
  refine aw_callV (rest := []) [] dL_law_780 ly_187 rfl k_L_98 rfl h (Nat.le_of_ble_eq_true rfl) (fun v m3 h => ?_)
  obtain ⟨v4, rfl, h⟩ := h
  refine aw_eq (L' := [(0, .ref sb), (1, .ref (ad 0)), (2, .ref (ad 187)), (3, .ref (ad 217)), (4, .int x4)]) (st' := [.int v4]) (m' := m3) ?_ rfl rfl rfl
  refine aw_pop dL_law_783 rfl ?_
  refine aw_goto (tgt := 1550) dL_law_784 (by decide) ?_
  refine aw_iinc (j := 4) (v := x4 + (6 : Int32)) (L' := [(4, .int (x4 + (6 : Int32))), (0, .ref sb), (1, .ref (ad 0)), (2, .ref (ad 187)), (3, .ref (ad 217))]) dL_law_1550 rfl rfl (by decide) rfl ?_
  refine aw_goto (tgt := 23) dL_law_1553 (by decide) ?_
  exact aw_drop (Nat.le_succ _) (Nat.le_add_right _ _) (aw_sub [1, 2, 3, 4, 0] rfl h)
set_option maxRecDepth 100000 in
set_option maxHeartbeats 4000000 in
theorem g_L_law_787 {ad : Nat → Nat} {sb Ls kc ks : Nat} {xs : Nat → Int32} {d : Nat} {Q : Option Value → Wm → Prop} {m : Wm} {x4 : Int32} (h : (vp_in (x4 + (1 : Int32)) Ls ∧ (vp_in (x4 + (2 : Int32)) Ls ∧ (Ct ad μX11_judge d [.ref (ad 0), .int (xs (x4 + (1 : Int32)).toNatClampNeg), .int (xs (x4 + (2 : Int32)).toNatClampNeg)] m (fun r m1 => ∃ v2 : Int32, r = some (.int v2) ∧ (vp_in (x4 + (1 : Int32)) Ls ∧ (vp_in (x4 + (2 : Int32)) Ls ∧ (Ct ad μX12_judge d [.ref (ad 187), .int (xs (x4 + (1 : Int32)).toNatClampNeg), .int (xs (x4 + (2 : Int32)).toNatClampNeg)] m1 (fun r m3 => ∃ v4 : Int32, r = some (.int v4) ∧ AWl LAY ad (EX (SX sb Ls xs) kc ks LAY) μL_law (d + 1) Q 23 [(0, .ref sb), (1, .ref (ad 0)), (2, .ref (ad 187)), (3, .ref (ad 217)), (4, .int (x4 + (6 : Int32)))] [] m3))))))))) : AWl LAY ad (EX (SX sb Ls xs) (kc + 1) (ks + 6) LAY) μL_law (d + 1) Q 787 [(0, .ref sb), (1, .ref (ad 0)), (2, .ref (ad 187)), (3, .ref (ad 217)), (4, .int x4)] [] m := by
  refine aw_aload_n (j := 1) dL_law_787 rfl rfl ?_
  refine aw_aload_n (j := 0) dL_law_788 rfl rfl ?_
  refine aw_iload (j := 4) dL_law_789 rfl ?_
  refine aw_iconst (v := 1) dL_law_791 (by decide) ?_
  refine aw_iadd dL_law_792 ?_
  obtain ⟨hi, h⟩ := h
  refine aw_sld dL_law_793 hi ?_
  refine aw_aload_n (j := 0) dL_law_794 rfl rfl ?_
  refine aw_iload (j := 4) dL_law_795 rfl ?_
  refine aw_iconst (v := 2) dL_law_797 (by decide) ?_
  refine aw_iadd dL_law_798 ?_
  obtain ⟨hi, h⟩ := h
  refine aw_sld dL_law_799 hi ?_
  refine aw_callV (rest := []) [.int (xs (x4 + (1 : Int32)).toNatClampNeg), .int (xs (x4 + (2 : Int32)).toNatClampNeg)] dL_law_800 ly_0 rfl k_L_99 rfl h (Nat.le_of_ble_eq_true rfl) (fun v m1 h => ?_)
  obtain ⟨v2, rfl, h⟩ := h
  refine aw_eq (L' := [(0, .ref sb), (1, .ref (ad 0)), (2, .ref (ad 187)), (3, .ref (ad 217)), (4, .int x4)]) (st' := [.int v2]) (m' := m1) ?_ rfl rfl rfl
  refine aw_pop dL_law_803 rfl ?_
  refine aw_aload_n (j := 2) dL_law_804 rfl rfl ?_
  refine aw_aload_n (j := 0) dL_law_805 rfl rfl ?_
  refine aw_iload (j := 4) dL_law_806 rfl ?_
  refine aw_iconst (v := 1) dL_law_808 (by decide) ?_
  refine aw_iadd dL_law_809 ?_
  obtain ⟨hi, h⟩ := h
  refine aw_sld dL_law_810 hi ?_
  refine aw_aload_n (j := 0) dL_law_811 rfl rfl ?_
  refine aw_iload (j := 4) dL_law_812 rfl ?_
  refine aw_iconst (v := 2) dL_law_814 (by decide) ?_
  refine aw_iadd dL_law_815 ?_
  obtain ⟨hi, h⟩ := h
  refine aw_sld dL_law_816 hi ?_
  refine aw_callV (rest := []) [.int (xs (x4 + (1 : Int32)).toNatClampNeg), .int (xs (x4 + (2 : Int32)).toNatClampNeg)] dL_law_817 ly_187 rfl k_L_102 rfl h (Nat.le_of_ble_eq_true rfl) (fun v m3 h => ?_)
  obtain ⟨v4, rfl, h⟩ := h
  refine aw_eq (L' := [(0, .ref sb), (1, .ref (ad 0)), (2, .ref (ad 187)), (3, .ref (ad 217)), (4, .int x4)]) (st' := [.int v4]) (m' := m3) ?_ rfl rfl rfl
  refine aw_pop dL_law_820 rfl ?_
  refine aw_goto (tgt := 1550) dL_law_821 (by decide) ?_
  refine aw_iinc (j := 4) (v := x4 + (6 : Int32)) (L' := [(4, .int (x4 + (6 : Int32))), (0, .ref sb), (1, .ref (ad 0)), (2, .ref (ad 187)), (3, .ref (ad 217))]) dL_law_1550 rfl rfl (by decide) rfl ?_
  refine aw_goto (tgt := 23) dL_law_1553 (by decide) ?_
  exact aw_drop (Nat.le_succ _) (Nat.le_add_right _ _) (aw_sub [1, 2, 3, 4, 0] rfl h)
set_option maxRecDepth 100000 in
set_option maxHeartbeats 4000000 in
theorem g_L_law_824 {ad : Nat → Nat} {sb Ls kc ks : Nat} {xs : Nat → Int32} {d : Nat} {Q : Option Value → Wm → Prop} {m : Wm} {x4 : Int32} (h : (vp_in (x4 + (1 : Int32)) Ls ∧ (Ct ad μX11_rounds d [.ref (ad 0), .int (xs (x4 + (1 : Int32)).toNatClampNeg)] m (fun r m1 => ∃ v2 : Int32, r = some (.int v2) ∧ (vp_in (x4 + (1 : Int32)) Ls ∧ (Ct ad μX12_rounds d [.ref (ad 187), .int (xs (x4 + (1 : Int32)).toNatClampNeg)] m1 (fun r m3 => ∃ v4 : Int32, r = some (.int v4) ∧ AWl LAY ad (EX (SX sb Ls xs) kc ks LAY) μL_law (d + 1) Q 23 [(0, .ref sb), (1, .ref (ad 0)), (2, .ref (ad 187)), (3, .ref (ad 217)), (4, .int (x4 + (6 : Int32)))] [] m3))))))) : AWl LAY ad (EX (SX sb Ls xs) (kc + 1) (ks + 6) LAY) μL_law (d + 1) Q 824 [(0, .ref sb), (1, .ref (ad 0)), (2, .ref (ad 187)), (3, .ref (ad 217)), (4, .int x4)] [] m := by
  refine aw_aload_n (j := 1) dL_law_824 rfl rfl ?_
  refine aw_aload_n (j := 0) dL_law_825 rfl rfl ?_
  refine aw_iload (j := 4) dL_law_826 rfl ?_
  refine aw_iconst (v := 1) dL_law_828 (by decide) ?_
  refine aw_iadd dL_law_829 ?_
  obtain ⟨hi, h⟩ := h
  refine aw_sld dL_law_830 hi ?_
  refine aw_callV (rest := []) [.int (xs (x4 + (1 : Int32)).toNatClampNeg)] dL_law_831 ly_0 rfl k_L_103 rfl h (Nat.le_of_ble_eq_true rfl) (fun v m1 h => ?_)
  obtain ⟨v2, rfl, h⟩ := h
  refine aw_eq (L' := [(0, .ref sb), (1, .ref (ad 0)), (2, .ref (ad 187)), (3, .ref (ad 217)), (4, .int x4)]) (st' := [.int v2]) (m' := m1) ?_ rfl rfl rfl
  refine aw_pop dL_law_834 rfl ?_
  refine aw_aload_n (j := 2) dL_law_835 rfl rfl ?_
  refine aw_aload_n (j := 0) dL_law_836 rfl rfl ?_
  refine aw_iload (j := 4) dL_law_837 rfl ?_
  refine aw_iconst (v := 1) dL_law_839 (by decide) ?_
  refine aw_iadd dL_law_840 ?_
  obtain ⟨hi, h⟩ := h
  refine aw_sld dL_law_841 hi ?_
  refine aw_callV (rest := []) [.int (xs (x4 + (1 : Int32)).toNatClampNeg)] dL_law_842 ly_187 rfl k_L_106 rfl h (Nat.le_of_ble_eq_true rfl) (fun v m3 h => ?_)
  obtain ⟨v4, rfl, h⟩ := h
  refine aw_eq (L' := [(0, .ref sb), (1, .ref (ad 0)), (2, .ref (ad 187)), (3, .ref (ad 217)), (4, .int x4)]) (st' := [.int v4]) (m' := m3) ?_ rfl rfl rfl
  refine aw_pop dL_law_845 rfl ?_
  refine aw_goto (tgt := 1550) dL_law_846 (by decide) ?_
  refine aw_iinc (j := 4) (v := x4 + (6 : Int32)) (L' := [(4, .int (x4 + (6 : Int32))), (0, .ref sb), (1, .ref (ad 0)), (2, .ref (ad 187)), (3, .ref (ad 217))]) dL_law_1550 rfl rfl (by decide) rfl ?_
  refine aw_goto (tgt := 23) dL_law_1553 (by decide) ?_
  exact aw_drop (Nat.le_succ _) (Nat.le_add_right _ _) (aw_sub [1, 2, 3, 4, 0] rfl h)
set_option maxRecDepth 100000 in
set_option maxHeartbeats 4000000 in
theorem g_L_law_849 {ad : Nat → Nat} {sb Ls kc ks : Nat} {xs : Nat → Int32} {d : Nat} {Q : Option Value → Wm → Prop} {m : Wm} {x4 : Int32} (h : (vp_in (x4 + (1 : Int32)) Ls ∧ (Ct ad μX11_beats d [.ref (ad 0), .int (xs (x4 + (1 : Int32)).toNatClampNeg)] m (fun r m1 => ∃ v2 : Int32, r = some (.int v2) ∧ (vp_in (x4 + (1 : Int32)) Ls ∧ (Ct ad μX12_beats d [.ref (ad 187), .int (xs (x4 + (1 : Int32)).toNatClampNeg)] m1 (fun r m3 => ∃ v4 : Int32, r = some (.int v4) ∧ AWl LAY ad (EX (SX sb Ls xs) kc ks LAY) μL_law (d + 1) Q 23 [(0, .ref sb), (1, .ref (ad 0)), (2, .ref (ad 187)), (3, .ref (ad 217)), (4, .int (x4 + (6 : Int32)))] [] m3))))))) : AWl LAY ad (EX (SX sb Ls xs) (kc + 1) (ks + 6) LAY) μL_law (d + 1) Q 849 [(0, .ref sb), (1, .ref (ad 0)), (2, .ref (ad 187)), (3, .ref (ad 217)), (4, .int x4)] [] m := by
  refine aw_aload_n (j := 1) dL_law_849 rfl rfl ?_
  refine aw_aload_n (j := 0) dL_law_850 rfl rfl ?_
  refine aw_iload (j := 4) dL_law_851 rfl ?_
  refine aw_iconst (v := 1) dL_law_853 (by decide) ?_
  refine aw_iadd dL_law_854 ?_
  obtain ⟨hi, h⟩ := h
  refine aw_sld dL_law_855 hi ?_
  refine aw_callV (rest := []) [.int (xs (x4 + (1 : Int32)).toNatClampNeg)] dL_law_856 ly_0 rfl k_L_107 rfl h (Nat.le_of_ble_eq_true rfl) (fun v m1 h => ?_)
  obtain ⟨v2, rfl, h⟩ := h
  refine aw_eq (L' := [(0, .ref sb), (1, .ref (ad 0)), (2, .ref (ad 187)), (3, .ref (ad 217)), (4, .int x4)]) (st' := [.int v2]) (m' := m1) ?_ rfl rfl rfl
  refine aw_pop dL_law_859 rfl ?_
  refine aw_aload_n (j := 2) dL_law_860 rfl rfl ?_
  refine aw_aload_n (j := 0) dL_law_861 rfl rfl ?_
  refine aw_iload (j := 4) dL_law_862 rfl ?_
  refine aw_iconst (v := 1) dL_law_864 (by decide) ?_
  refine aw_iadd dL_law_865 ?_
  obtain ⟨hi, h⟩ := h
  refine aw_sld dL_law_866 hi ?_
  refine aw_callV (rest := []) [.int (xs (x4 + (1 : Int32)).toNatClampNeg)] dL_law_867 ly_187 rfl k_L_110 rfl h (Nat.le_of_ble_eq_true rfl) (fun v m3 h => ?_)
  obtain ⟨v4, rfl, h⟩ := h
  refine aw_eq (L' := [(0, .ref sb), (1, .ref (ad 0)), (2, .ref (ad 187)), (3, .ref (ad 217)), (4, .int x4)]) (st' := [.int v4]) (m' := m3) ?_ rfl rfl rfl
  refine aw_pop dL_law_870 rfl ?_
  refine aw_goto (tgt := 1550) dL_law_871 (by decide) ?_
  refine aw_iinc (j := 4) (v := x4 + (6 : Int32)) (L' := [(4, .int (x4 + (6 : Int32))), (0, .ref sb), (1, .ref (ad 0)), (2, .ref (ad 187)), (3, .ref (ad 217))]) dL_law_1550 rfl rfl (by decide) rfl ?_
  refine aw_goto (tgt := 23) dL_law_1553 (by decide) ?_
  exact aw_drop (Nat.le_succ _) (Nat.le_add_right _ _) (aw_sub [1, 2, 3, 4, 0] rfl h)
set_option maxRecDepth 100000 in
set_option maxHeartbeats 4000000 in
theorem g_L_law_874 {ad : Nat → Nat} {sb Ls kc ks : Nat} {xs : Nat → Int32} {d : Nat} {Q : Option Value → Wm → Prop} {m : Wm} {x4 : Int32} (h : (Ct ad μX11_kings d [.ref (ad 0)] m (fun r m1 => ∃ v2 : Int32, r = some (.int v2) ∧ (Ct ad μX12_kings d [.ref (ad 187)] m1 (fun r m3 => ∃ v4 : Int32, r = some (.int v4) ∧ AWl LAY ad (EX (SX sb Ls xs) kc ks LAY) μL_law (d + 1) Q 23 [(0, .ref sb), (1, .ref (ad 0)), (2, .ref (ad 187)), (3, .ref (ad 217)), (4, .int (x4 + (6 : Int32)))] [] m3))))) : AWl LAY ad (EX (SX sb Ls xs) (kc + 1) (ks + 6) LAY) μL_law (d + 1) Q 874 [(0, .ref sb), (1, .ref (ad 0)), (2, .ref (ad 187)), (3, .ref (ad 217)), (4, .int x4)] [] m := by
  refine aw_aload_n (j := 1) dL_law_874 rfl rfl ?_
  refine aw_callV (rest := []) [] dL_law_875 ly_0 rfl k_L_111 rfl h (Nat.le_of_ble_eq_true rfl) (fun v m1 h => ?_)
  obtain ⟨v2, rfl, h⟩ := h
  refine aw_eq (L' := [(0, .ref sb), (1, .ref (ad 0)), (2, .ref (ad 187)), (3, .ref (ad 217)), (4, .int x4)]) (st' := [.int v2]) (m' := m1) ?_ rfl rfl rfl
  refine aw_pop dL_law_878 rfl ?_
  refine aw_aload_n (j := 2) dL_law_879 rfl rfl ?_
  refine aw_callV (rest := []) [] dL_law_880 ly_187 rfl k_L_114 rfl h (Nat.le_of_ble_eq_true rfl) (fun v m3 h => ?_)
  obtain ⟨v4, rfl, h⟩ := h
  refine aw_eq (L' := [(0, .ref sb), (1, .ref (ad 0)), (2, .ref (ad 187)), (3, .ref (ad 217)), (4, .int x4)]) (st' := [.int v4]) (m' := m3) ?_ rfl rfl rfl
  refine aw_pop dL_law_883 rfl ?_
  refine aw_goto (tgt := 1550) dL_law_884 (by decide) ?_
  refine aw_iinc (j := 4) (v := x4 + (6 : Int32)) (L' := [(4, .int (x4 + (6 : Int32))), (0, .ref sb), (1, .ref (ad 0)), (2, .ref (ad 187)), (3, .ref (ad 217))]) dL_law_1550 rfl rfl (by decide) rfl ?_
  refine aw_goto (tgt := 23) dL_law_1553 (by decide) ?_
  exact aw_drop (Nat.le_succ _) (Nat.le_add_right _ _) (aw_sub [1, 2, 3, 4, 0] rfl h)
set_option maxRecDepth 100000 in
set_option maxHeartbeats 4000000 in
theorem g_L_law_887 {ad : Nat → Nat} {sb Ls kc ks : Nat} {xs : Nat → Int32} {d : Nat} {Q : Option Value → Wm → Prop} {m : Wm} {x4 : Int32} (h : (vp_in (x4 + (1 : Int32)) Ls ∧ (Ct ad μX11_master d [.ref (ad 0), .int (xs (x4 + (1 : Int32)).toNatClampNeg)] m (fun r m1 => ∃ v2 : Int32, r = some (.int v2) ∧ (vp_in (x4 + (1 : Int32)) Ls ∧ (Ct ad μX12_master d [.ref (ad 187), .int (xs (x4 + (1 : Int32)).toNatClampNeg)] m1 (fun r m3 => ∃ v4 : Int32, r = some (.int v4) ∧ AWl LAY ad (EX (SX sb Ls xs) kc ks LAY) μL_law (d + 1) Q 23 [(0, .ref sb), (1, .ref (ad 0)), (2, .ref (ad 187)), (3, .ref (ad 217)), (4, .int (x4 + (6 : Int32)))] [] m3))))))) : AWl LAY ad (EX (SX sb Ls xs) (kc + 1) (ks + 6) LAY) μL_law (d + 1) Q 887 [(0, .ref sb), (1, .ref (ad 0)), (2, .ref (ad 187)), (3, .ref (ad 217)), (4, .int x4)] [] m := by
  refine aw_aload_n (j := 1) dL_law_887 rfl rfl ?_
  refine aw_aload_n (j := 0) dL_law_888 rfl rfl ?_
  refine aw_iload (j := 4) dL_law_889 rfl ?_
  refine aw_iconst (v := 1) dL_law_891 (by decide) ?_
  refine aw_iadd dL_law_892 ?_
  obtain ⟨hi, h⟩ := h
  refine aw_sld dL_law_893 hi ?_
  refine aw_callV (rest := []) [.int (xs (x4 + (1 : Int32)).toNatClampNeg)] dL_law_894 ly_0 rfl k_L_115 rfl h (Nat.le_of_ble_eq_true rfl) (fun v m1 h => ?_)
  obtain ⟨v2, rfl, h⟩ := h
  refine aw_eq (L' := [(0, .ref sb), (1, .ref (ad 0)), (2, .ref (ad 187)), (3, .ref (ad 217)), (4, .int x4)]) (st' := [.int v2]) (m' := m1) ?_ rfl rfl rfl
  refine aw_pop dL_law_897 rfl ?_
  refine aw_aload_n (j := 2) dL_law_898 rfl rfl ?_
  refine aw_aload_n (j := 0) dL_law_899 rfl rfl ?_
  refine aw_iload (j := 4) dL_law_900 rfl ?_
  refine aw_iconst (v := 1) dL_law_902 (by decide) ?_
  refine aw_iadd dL_law_903 ?_
  obtain ⟨hi, h⟩ := h
  refine aw_sld dL_law_904 hi ?_
  refine aw_callV (rest := []) [.int (xs (x4 + (1 : Int32)).toNatClampNeg)] dL_law_905 ly_187 rfl k_L_118 rfl h (Nat.le_of_ble_eq_true rfl) (fun v m3 h => ?_)
  obtain ⟨v4, rfl, h⟩ := h
  refine aw_eq (L' := [(0, .ref sb), (1, .ref (ad 0)), (2, .ref (ad 187)), (3, .ref (ad 217)), (4, .int x4)]) (st' := [.int v4]) (m' := m3) ?_ rfl rfl rfl
  refine aw_pop dL_law_908 rfl ?_
  refine aw_goto (tgt := 1550) dL_law_909 (by decide) ?_
  refine aw_iinc (j := 4) (v := x4 + (6 : Int32)) (L' := [(4, .int (x4 + (6 : Int32))), (0, .ref sb), (1, .ref (ad 0)), (2, .ref (ad 187)), (3, .ref (ad 217))]) dL_law_1550 rfl rfl (by decide) rfl ?_
  refine aw_goto (tgt := 23) dL_law_1553 (by decide) ?_
  exact aw_drop (Nat.le_succ _) (Nat.le_add_right _ _) (aw_sub [1, 2, 3, 4, 0] rfl h)
set_option maxRecDepth 100000 in
set_option maxHeartbeats 4000000 in
theorem g_L_law_912 {ad : Nat → Nat} {sb Ls kc ks : Nat} {xs : Nat → Int32} {d : Nat} {Q : Option Value → Wm → Prop} {m : Wm} {x4 : Int32} (h : (Ct ad μX11_table d [.ref (ad 0)] m (fun r m1 => ∃ v2 : Int32, r = some (.int v2) ∧ (Ct ad μX12_table d [.ref (ad 187)] m1 (fun r m3 => ∃ v4 : Int32, r = some (.int v4) ∧ AWl LAY ad (EX (SX sb Ls xs) kc ks LAY) μL_law (d + 1) Q 23 [(0, .ref sb), (1, .ref (ad 0)), (2, .ref (ad 187)), (3, .ref (ad 217)), (4, .int (x4 + (6 : Int32)))] [] m3))))) : AWl LAY ad (EX (SX sb Ls xs) (kc + 1) (ks + 6) LAY) μL_law (d + 1) Q 912 [(0, .ref sb), (1, .ref (ad 0)), (2, .ref (ad 187)), (3, .ref (ad 217)), (4, .int x4)] [] m := by
  refine aw_aload_n (j := 1) dL_law_912 rfl rfl ?_
  refine aw_callV (rest := []) [] dL_law_913 ly_0 rfl k_L_119 rfl h (Nat.le_of_ble_eq_true rfl) (fun v m1 h => ?_)
  obtain ⟨v2, rfl, h⟩ := h
  refine aw_eq (L' := [(0, .ref sb), (1, .ref (ad 0)), (2, .ref (ad 187)), (3, .ref (ad 217)), (4, .int x4)]) (st' := [.int v2]) (m' := m1) ?_ rfl rfl rfl
  refine aw_pop dL_law_916 rfl ?_
  refine aw_aload_n (j := 2) dL_law_917 rfl rfl ?_
  refine aw_callV (rest := []) [] dL_law_918 ly_187 rfl k_L_122 rfl h (Nat.le_of_ble_eq_true rfl) (fun v m3 h => ?_)
  obtain ⟨v4, rfl, h⟩ := h
  refine aw_eq (L' := [(0, .ref sb), (1, .ref (ad 0)), (2, .ref (ad 187)), (3, .ref (ad 217)), (4, .int x4)]) (st' := [.int v4]) (m' := m3) ?_ rfl rfl rfl
  refine aw_pop dL_law_921 rfl ?_
  refine aw_goto (tgt := 1550) dL_law_922 (by decide) ?_
  refine aw_iinc (j := 4) (v := x4 + (6 : Int32)) (L' := [(4, .int (x4 + (6 : Int32))), (0, .ref sb), (1, .ref (ad 0)), (2, .ref (ad 187)), (3, .ref (ad 217))]) dL_law_1550 rfl rfl (by decide) rfl ?_
  refine aw_goto (tgt := 23) dL_law_1553 (by decide) ?_
  exact aw_drop (Nat.le_succ _) (Nat.le_add_right _ _) (aw_sub [1, 2, 3, 4, 0] rfl h)
set_option maxRecDepth 100000 in
set_option maxHeartbeats 4000000 in
theorem g_L_law_925 {ad : Nat → Nat} {sb Ls kc ks : Nat} {xs : Nat → Int32} {d : Nat} {Q : Option Value → Wm → Prop} {m : Wm} {x4 : Int32} (h : (Ct ad μX11_spread d [.ref (ad 0)] m (fun r m1 => ∃ v2 : Int32, r = some (.int v2) ∧ (Ct ad μX12_spread d [.ref (ad 187)] m1 (fun r m3 => ∃ v4 : Int32, r = some (.int v4) ∧ AWl LAY ad (EX (SX sb Ls xs) kc ks LAY) μL_law (d + 1) Q 23 [(0, .ref sb), (1, .ref (ad 0)), (2, .ref (ad 187)), (3, .ref (ad 217)), (4, .int (x4 + (6 : Int32)))] [] m3))))) : AWl LAY ad (EX (SX sb Ls xs) (kc + 1) (ks + 6) LAY) μL_law (d + 1) Q 925 [(0, .ref sb), (1, .ref (ad 0)), (2, .ref (ad 187)), (3, .ref (ad 217)), (4, .int x4)] [] m := by
  refine aw_aload_n (j := 1) dL_law_925 rfl rfl ?_
  refine aw_callV (rest := []) [] dL_law_926 ly_0 rfl k_L_123 rfl h (Nat.le_of_ble_eq_true rfl) (fun v m1 h => ?_)
  obtain ⟨v2, rfl, h⟩ := h
  refine aw_eq (L' := [(0, .ref sb), (1, .ref (ad 0)), (2, .ref (ad 187)), (3, .ref (ad 217)), (4, .int x4)]) (st' := [.int v2]) (m' := m1) ?_ rfl rfl rfl
  refine aw_pop dL_law_929 rfl ?_
  refine aw_aload_n (j := 2) dL_law_930 rfl rfl ?_
  refine aw_callV (rest := []) [] dL_law_931 ly_187 rfl k_L_126 rfl h (Nat.le_of_ble_eq_true rfl) (fun v m3 h => ?_)
  obtain ⟨v4, rfl, h⟩ := h
  refine aw_eq (L' := [(0, .ref sb), (1, .ref (ad 0)), (2, .ref (ad 187)), (3, .ref (ad 217)), (4, .int x4)]) (st' := [.int v4]) (m' := m3) ?_ rfl rfl rfl
  refine aw_pop dL_law_934 rfl ?_
  refine aw_goto (tgt := 1550) dL_law_935 (by decide) ?_
  refine aw_iinc (j := 4) (v := x4 + (6 : Int32)) (L' := [(4, .int (x4 + (6 : Int32))), (0, .ref sb), (1, .ref (ad 0)), (2, .ref (ad 187)), (3, .ref (ad 217))]) dL_law_1550 rfl rfl (by decide) rfl ?_
  refine aw_goto (tgt := 23) dL_law_1553 (by decide) ?_
  exact aw_drop (Nat.le_succ _) (Nat.le_add_right _ _) (aw_sub [1, 2, 3, 4, 0] rfl h)
set_option maxRecDepth 100000 in
set_option maxHeartbeats 4000000 in
theorem g_L_law_938 {ad : Nat → Nat} {sb Ls kc ks : Nat} {xs : Nat → Int32} {d : Nat} {Q : Option Value → Wm → Prop} {m : Wm} {x4 : Int32} (h : (Ct ad μX11_rest d [.ref (ad 0)] m (fun r m1 => ∃ v2 : Int32, r = some (.int v2) ∧ (Ct ad μX12_rest d [.ref (ad 187)] m1 (fun r m3 => ∃ v4 : Int32, r = some (.int v4) ∧ AWl LAY ad (EX (SX sb Ls xs) kc ks LAY) μL_law (d + 1) Q 23 [(0, .ref sb), (1, .ref (ad 0)), (2, .ref (ad 187)), (3, .ref (ad 217)), (4, .int (x4 + (6 : Int32)))] [] m3))))) : AWl LAY ad (EX (SX sb Ls xs) (kc + 1) (ks + 6) LAY) μL_law (d + 1) Q 938 [(0, .ref sb), (1, .ref (ad 0)), (2, .ref (ad 187)), (3, .ref (ad 217)), (4, .int x4)] [] m := by
  refine aw_aload_n (j := 1) dL_law_938 rfl rfl ?_
  refine aw_callV (rest := []) [] dL_law_939 ly_0 rfl k_L_127 rfl h (Nat.le_of_ble_eq_true rfl) (fun v m1 h => ?_)
  obtain ⟨v2, rfl, h⟩ := h
  refine aw_eq (L' := [(0, .ref sb), (1, .ref (ad 0)), (2, .ref (ad 187)), (3, .ref (ad 217)), (4, .int x4)]) (st' := [.int v2]) (m' := m1) ?_ rfl rfl rfl
  refine aw_pop dL_law_942 rfl ?_
  refine aw_aload_n (j := 2) dL_law_943 rfl rfl ?_
  refine aw_callV (rest := []) [] dL_law_944 ly_187 rfl k_L_130 rfl h (Nat.le_of_ble_eq_true rfl) (fun v m3 h => ?_)
  obtain ⟨v4, rfl, h⟩ := h
  refine aw_eq (L' := [(0, .ref sb), (1, .ref (ad 0)), (2, .ref (ad 187)), (3, .ref (ad 217)), (4, .int x4)]) (st' := [.int v4]) (m' := m3) ?_ rfl rfl rfl
  refine aw_pop dL_law_947 rfl ?_
  refine aw_goto (tgt := 1550) dL_law_948 (by decide) ?_
  refine aw_iinc (j := 4) (v := x4 + (6 : Int32)) (L' := [(4, .int (x4 + (6 : Int32))), (0, .ref sb), (1, .ref (ad 0)), (2, .ref (ad 187)), (3, .ref (ad 217))]) dL_law_1550 rfl rfl (by decide) rfl ?_
  refine aw_goto (tgt := 23) dL_law_1553 (by decide) ?_
  exact aw_drop (Nat.le_succ _) (Nat.le_add_right _ _) (aw_sub [1, 2, 3, 4, 0] rfl h)
set_option maxRecDepth 100000 in
set_option maxHeartbeats 4000000 in
theorem g_L_law_951 {ad : Nat → Nat} {sb Ls kc ks : Nat} {xs : Nat → Int32} {d : Nat} {Q : Option Value → Wm → Prop} {m : Wm} {x4 : Int32} (h : (vp_in (x4 + (1 : Int32)) Ls ∧ (vp_in (x4 + (2 : Int32)) Ls ∧ (Ct ad μX11_mean d [.ref (ad 0), .int (xs (x4 + (1 : Int32)).toNatClampNeg), .int (xs (x4 + (2 : Int32)).toNatClampNeg)] m (fun r m1 => ∃ v2 : Int32, r = some (.int v2) ∧ (vp_in (x4 + (1 : Int32)) Ls ∧ (vp_in (x4 + (2 : Int32)) Ls ∧ (Ct ad μX12_mean d [.ref (ad 187), .int (xs (x4 + (1 : Int32)).toNatClampNeg), .int (xs (x4 + (2 : Int32)).toNatClampNeg)] m1 (fun r m3 => ∃ v4 : Int32, r = some (.int v4) ∧ AWl LAY ad (EX (SX sb Ls xs) kc ks LAY) μL_law (d + 1) Q 23 [(0, .ref sb), (1, .ref (ad 0)), (2, .ref (ad 187)), (3, .ref (ad 217)), (4, .int (x4 + (6 : Int32)))] [] m3))))))))) : AWl LAY ad (EX (SX sb Ls xs) (kc + 1) (ks + 6) LAY) μL_law (d + 1) Q 951 [(0, .ref sb), (1, .ref (ad 0)), (2, .ref (ad 187)), (3, .ref (ad 217)), (4, .int x4)] [] m := by
  refine aw_aload_n (j := 1) dL_law_951 rfl rfl ?_
  refine aw_aload_n (j := 0) dL_law_952 rfl rfl ?_
  refine aw_iload (j := 4) dL_law_953 rfl ?_
  refine aw_iconst (v := 1) dL_law_955 (by decide) ?_
  refine aw_iadd dL_law_956 ?_
  obtain ⟨hi, h⟩ := h
  refine aw_sld dL_law_957 hi ?_
  refine aw_aload_n (j := 0) dL_law_958 rfl rfl ?_
  refine aw_iload (j := 4) dL_law_959 rfl ?_
  refine aw_iconst (v := 2) dL_law_961 (by decide) ?_
  refine aw_iadd dL_law_962 ?_
  obtain ⟨hi, h⟩ := h
  refine aw_sld dL_law_963 hi ?_
  refine aw_callV (rest := []) [.int (xs (x4 + (1 : Int32)).toNatClampNeg), .int (xs (x4 + (2 : Int32)).toNatClampNeg)] dL_law_964 ly_0 rfl k_L_131 rfl h (Nat.le_of_ble_eq_true rfl) (fun v m1 h => ?_)
  obtain ⟨v2, rfl, h⟩ := h
  refine aw_eq (L' := [(0, .ref sb), (1, .ref (ad 0)), (2, .ref (ad 187)), (3, .ref (ad 217)), (4, .int x4)]) (st' := [.int v2]) (m' := m1) ?_ rfl rfl rfl
  refine aw_pop dL_law_967 rfl ?_
  refine aw_aload_n (j := 2) dL_law_968 rfl rfl ?_
  refine aw_aload_n (j := 0) dL_law_969 rfl rfl ?_
  refine aw_iload (j := 4) dL_law_970 rfl ?_
  refine aw_iconst (v := 1) dL_law_972 (by decide) ?_
  refine aw_iadd dL_law_973 ?_
  obtain ⟨hi, h⟩ := h
  refine aw_sld dL_law_974 hi ?_
  refine aw_aload_n (j := 0) dL_law_975 rfl rfl ?_
  refine aw_iload (j := 4) dL_law_976 rfl ?_
  refine aw_iconst (v := 2) dL_law_978 (by decide) ?_
  refine aw_iadd dL_law_979 ?_
  obtain ⟨hi, h⟩ := h
  refine aw_sld dL_law_980 hi ?_
  refine aw_callV (rest := []) [.int (xs (x4 + (1 : Int32)).toNatClampNeg), .int (xs (x4 + (2 : Int32)).toNatClampNeg)] dL_law_981 ly_187 rfl k_L_134 rfl h (Nat.le_of_ble_eq_true rfl) (fun v m3 h => ?_)
  obtain ⟨v4, rfl, h⟩ := h
  refine aw_eq (L' := [(0, .ref sb), (1, .ref (ad 0)), (2, .ref (ad 187)), (3, .ref (ad 217)), (4, .int x4)]) (st' := [.int v4]) (m' := m3) ?_ rfl rfl rfl
  refine aw_pop dL_law_984 rfl ?_
  refine aw_goto (tgt := 1550) dL_law_985 (by decide) ?_
  refine aw_iinc (j := 4) (v := x4 + (6 : Int32)) (L' := [(4, .int (x4 + (6 : Int32))), (0, .ref sb), (1, .ref (ad 0)), (2, .ref (ad 187)), (3, .ref (ad 217))]) dL_law_1550 rfl rfl (by decide) rfl ?_
  refine aw_goto (tgt := 23) dL_law_1553 (by decide) ?_
  exact aw_drop (Nat.le_succ _) (Nat.le_add_right _ _) (aw_sub [1, 2, 3, 4, 0] rfl h)
set_option maxRecDepth 100000 in
set_option maxHeartbeats 4000000 in
theorem g_L_law_988 {ad : Nat → Nat} {sb Ls kc ks : Nat} {xs : Nat → Int32} {d : Nat} {Q : Option Value → Wm → Prop} {m : Wm} {x4 : Int32} (h : (vp_in (x4 + (1 : Int32)) Ls ∧ (vp_in (x4 + (2 : Int32)) Ls ∧ (vp_in (x4 + (3 : Int32)) Ls ∧ (Ct ad μX11_soon d [.ref (ad 0), .int (xs (x4 + (1 : Int32)).toNatClampNeg), .int (xs (x4 + (2 : Int32)).toNatClampNeg), .int (xs (x4 + (3 : Int32)).toNatClampNeg)] m (fun r m1 => ∃ v2 : Int32, r = some (.int v2) ∧ (vp_in (x4 + (1 : Int32)) Ls ∧ (vp_in (x4 + (2 : Int32)) Ls ∧ (vp_in (x4 + (3 : Int32)) Ls ∧ (Ct ad μX12_soon d [.ref (ad 187), .int (xs (x4 + (1 : Int32)).toNatClampNeg), .int (xs (x4 + (2 : Int32)).toNatClampNeg), .int (xs (x4 + (3 : Int32)).toNatClampNeg)] m1 (fun r m3 => ∃ v4 : Int32, r = some (.int v4) ∧ AWl LAY ad (EX (SX sb Ls xs) kc ks LAY) μL_law (d + 1) Q 23 [(0, .ref sb), (1, .ref (ad 0)), (2, .ref (ad 187)), (3, .ref (ad 217)), (4, .int (x4 + (6 : Int32)))] [] m3))))))))))) : AWl LAY ad (EX (SX sb Ls xs) (kc + 1) (ks + 6) LAY) μL_law (d + 1) Q 988 [(0, .ref sb), (1, .ref (ad 0)), (2, .ref (ad 187)), (3, .ref (ad 217)), (4, .int x4)] [] m := by
  refine aw_aload_n (j := 1) dL_law_988 rfl rfl ?_
  refine aw_aload_n (j := 0) dL_law_989 rfl rfl ?_
  refine aw_iload (j := 4) dL_law_990 rfl ?_
  refine aw_iconst (v := 1) dL_law_992 (by decide) ?_
  refine aw_iadd dL_law_993 ?_
  obtain ⟨hi, h⟩ := h
  refine aw_sld dL_law_994 hi ?_
  refine aw_aload_n (j := 0) dL_law_995 rfl rfl ?_
  refine aw_iload (j := 4) dL_law_996 rfl ?_
  refine aw_iconst (v := 2) dL_law_998 (by decide) ?_
  refine aw_iadd dL_law_999 ?_
  obtain ⟨hi, h⟩ := h
  refine aw_sld dL_law_1000 hi ?_
  refine aw_aload_n (j := 0) dL_law_1001 rfl rfl ?_
  refine aw_iload (j := 4) dL_law_1002 rfl ?_
  refine aw_iconst (v := 3) dL_law_1004 (by decide) ?_
  refine aw_iadd dL_law_1005 ?_
  obtain ⟨hi, h⟩ := h
  refine aw_sld dL_law_1006 hi ?_
  refine aw_callV (rest := []) [.int (xs (x4 + (1 : Int32)).toNatClampNeg), .int (xs (x4 + (2 : Int32)).toNatClampNeg), .int (xs (x4 + (3 : Int32)).toNatClampNeg)] dL_law_1007 ly_0 rfl k_L_135 rfl h (Nat.le_of_ble_eq_true rfl) (fun v m1 h => ?_)
  obtain ⟨v2, rfl, h⟩ := h
  refine aw_eq (L' := [(0, .ref sb), (1, .ref (ad 0)), (2, .ref (ad 187)), (3, .ref (ad 217)), (4, .int x4)]) (st' := [.int v2]) (m' := m1) ?_ rfl rfl rfl
  refine aw_pop dL_law_1010 rfl ?_
  refine aw_aload_n (j := 2) dL_law_1011 rfl rfl ?_
  refine aw_aload_n (j := 0) dL_law_1012 rfl rfl ?_
  refine aw_iload (j := 4) dL_law_1013 rfl ?_
  refine aw_iconst (v := 1) dL_law_1015 (by decide) ?_
  refine aw_iadd dL_law_1016 ?_
  obtain ⟨hi, h⟩ := h
  refine aw_sld dL_law_1017 hi ?_
  refine aw_aload_n (j := 0) dL_law_1018 rfl rfl ?_
  refine aw_iload (j := 4) dL_law_1019 rfl ?_
  refine aw_iconst (v := 2) dL_law_1021 (by decide) ?_
  refine aw_iadd dL_law_1022 ?_
  obtain ⟨hi, h⟩ := h
  refine aw_sld dL_law_1023 hi ?_
  refine aw_aload_n (j := 0) dL_law_1024 rfl rfl ?_
  refine aw_iload (j := 4) dL_law_1025 rfl ?_
  refine aw_iconst (v := 3) dL_law_1027 (by decide) ?_
  refine aw_iadd dL_law_1028 ?_
  obtain ⟨hi, h⟩ := h
  refine aw_sld dL_law_1029 hi ?_
  refine aw_callV (rest := []) [.int (xs (x4 + (1 : Int32)).toNatClampNeg), .int (xs (x4 + (2 : Int32)).toNatClampNeg), .int (xs (x4 + (3 : Int32)).toNatClampNeg)] dL_law_1030 ly_187 rfl k_L_138 rfl h (Nat.le_of_ble_eq_true rfl) (fun v m3 h => ?_)
  obtain ⟨v4, rfl, h⟩ := h
  refine aw_eq (L' := [(0, .ref sb), (1, .ref (ad 0)), (2, .ref (ad 187)), (3, .ref (ad 217)), (4, .int x4)]) (st' := [.int v4]) (m' := m3) ?_ rfl rfl rfl
  refine aw_pop dL_law_1033 rfl ?_
  refine aw_goto (tgt := 1550) dL_law_1034 (by decide) ?_
  refine aw_iinc (j := 4) (v := x4 + (6 : Int32)) (L' := [(4, .int (x4 + (6 : Int32))), (0, .ref sb), (1, .ref (ad 0)), (2, .ref (ad 187)), (3, .ref (ad 217))]) dL_law_1550 rfl rfl (by decide) rfl ?_
  refine aw_goto (tgt := 23) dL_law_1553 (by decide) ?_
  exact aw_drop (Nat.le_succ _) (Nat.le_add_right _ _) (aw_sub [1, 2, 3, 4, 0] rfl h)
set_option maxRecDepth 100000 in
set_option maxHeartbeats 4000000 in
theorem g_L_law_1037 {ad : Nat → Nat} {sb Ls kc ks : Nat} {xs : Nat → Int32} {d : Nat} {Q : Option Value → Wm → Prop} {m : Wm} {x4 : Int32} (h : (vp_in (x4 + (1 : Int32)) Ls ∧ (vp_in (x4 + (2 : Int32)) Ls ∧ (vp_in (x4 + (3 : Int32)) Ls ∧ (Ct ad μX11_wins d [.ref (ad 0), .int (xs (x4 + (1 : Int32)).toNatClampNeg), .int (xs (x4 + (2 : Int32)).toNatClampNeg), .int (xs (x4 + (3 : Int32)).toNatClampNeg)] m (fun r m1 => ∃ v2 : Int32, r = some (.int v2) ∧ (vp_in (x4 + (1 : Int32)) Ls ∧ (vp_in (x4 + (2 : Int32)) Ls ∧ (vp_in (x4 + (3 : Int32)) Ls ∧ (Ct ad μX12_wins d [.ref (ad 187), .int (xs (x4 + (1 : Int32)).toNatClampNeg), .int (xs (x4 + (2 : Int32)).toNatClampNeg), .int (xs (x4 + (3 : Int32)).toNatClampNeg)] m1 (fun r m3 => ∃ v4 : Int32, r = some (.int v4) ∧ AWl LAY ad (EX (SX sb Ls xs) kc ks LAY) μL_law (d + 1) Q 23 [(0, .ref sb), (1, .ref (ad 0)), (2, .ref (ad 187)), (3, .ref (ad 217)), (4, .int (x4 + (6 : Int32)))] [] m3))))))))))) : AWl LAY ad (EX (SX sb Ls xs) (kc + 1) (ks + 6) LAY) μL_law (d + 1) Q 1037 [(0, .ref sb), (1, .ref (ad 0)), (2, .ref (ad 187)), (3, .ref (ad 217)), (4, .int x4)] [] m := by
  refine aw_aload_n (j := 1) dL_law_1037 rfl rfl ?_
  refine aw_aload_n (j := 0) dL_law_1038 rfl rfl ?_
  refine aw_iload (j := 4) dL_law_1039 rfl ?_
  refine aw_iconst (v := 1) dL_law_1041 (by decide) ?_
  refine aw_iadd dL_law_1042 ?_
  obtain ⟨hi, h⟩ := h
  refine aw_sld dL_law_1043 hi ?_
  refine aw_aload_n (j := 0) dL_law_1044 rfl rfl ?_
  refine aw_iload (j := 4) dL_law_1045 rfl ?_
  refine aw_iconst (v := 2) dL_law_1047 (by decide) ?_
  refine aw_iadd dL_law_1048 ?_
  obtain ⟨hi, h⟩ := h
  refine aw_sld dL_law_1049 hi ?_
  refine aw_aload_n (j := 0) dL_law_1050 rfl rfl ?_
  refine aw_iload (j := 4) dL_law_1051 rfl ?_
  refine aw_iconst (v := 3) dL_law_1053 (by decide) ?_
  refine aw_iadd dL_law_1054 ?_
  obtain ⟨hi, h⟩ := h
  refine aw_sld dL_law_1055 hi ?_
  refine aw_callV (rest := []) [.int (xs (x4 + (1 : Int32)).toNatClampNeg), .int (xs (x4 + (2 : Int32)).toNatClampNeg), .int (xs (x4 + (3 : Int32)).toNatClampNeg)] dL_law_1056 ly_0 rfl k_L_139 rfl h (Nat.le_of_ble_eq_true rfl) (fun v m1 h => ?_)
  obtain ⟨v2, rfl, h⟩ := h
  refine aw_eq (L' := [(0, .ref sb), (1, .ref (ad 0)), (2, .ref (ad 187)), (3, .ref (ad 217)), (4, .int x4)]) (st' := [.int v2]) (m' := m1) ?_ rfl rfl rfl
  refine aw_pop dL_law_1059 rfl ?_
  refine aw_aload_n (j := 2) dL_law_1060 rfl rfl ?_
  refine aw_aload_n (j := 0) dL_law_1061 rfl rfl ?_
  refine aw_iload (j := 4) dL_law_1062 rfl ?_
  refine aw_iconst (v := 1) dL_law_1064 (by decide) ?_
  refine aw_iadd dL_law_1065 ?_
  obtain ⟨hi, h⟩ := h
  refine aw_sld dL_law_1066 hi ?_
  refine aw_aload_n (j := 0) dL_law_1067 rfl rfl ?_
  refine aw_iload (j := 4) dL_law_1068 rfl ?_
  refine aw_iconst (v := 2) dL_law_1070 (by decide) ?_
  refine aw_iadd dL_law_1071 ?_
  obtain ⟨hi, h⟩ := h
  refine aw_sld dL_law_1072 hi ?_
  refine aw_aload_n (j := 0) dL_law_1073 rfl rfl ?_
  refine aw_iload (j := 4) dL_law_1074 rfl ?_
  refine aw_iconst (v := 3) dL_law_1076 (by decide) ?_
  refine aw_iadd dL_law_1077 ?_
  obtain ⟨hi, h⟩ := h
  refine aw_sld dL_law_1078 hi ?_
  refine aw_callV (rest := []) [.int (xs (x4 + (1 : Int32)).toNatClampNeg), .int (xs (x4 + (2 : Int32)).toNatClampNeg), .int (xs (x4 + (3 : Int32)).toNatClampNeg)] dL_law_1079 ly_187 rfl k_L_142 rfl h (Nat.le_of_ble_eq_true rfl) (fun v m3 h => ?_)
  obtain ⟨v4, rfl, h⟩ := h
  refine aw_eq (L' := [(0, .ref sb), (1, .ref (ad 0)), (2, .ref (ad 187)), (3, .ref (ad 217)), (4, .int x4)]) (st' := [.int v4]) (m' := m3) ?_ rfl rfl rfl
  refine aw_pop dL_law_1082 rfl ?_
  refine aw_goto (tgt := 1550) dL_law_1083 (by decide) ?_
  refine aw_iinc (j := 4) (v := x4 + (6 : Int32)) (L' := [(4, .int (x4 + (6 : Int32))), (0, .ref sb), (1, .ref (ad 0)), (2, .ref (ad 187)), (3, .ref (ad 217))]) dL_law_1550 rfl rfl (by decide) rfl ?_
  refine aw_goto (tgt := 23) dL_law_1553 (by decide) ?_
  exact aw_drop (Nat.le_succ _) (Nat.le_add_right _ _) (aw_sub [1, 2, 3, 4, 0] rfl h)
set_option maxRecDepth 100000 in
set_option maxHeartbeats 4000000 in
theorem g_L_law_1086 {ad : Nat → Nat} {sb Ls kc ks : Nat} {xs : Nat → Int32} {d : Nat} {Q : Option Value → Wm → Prop} {m : Wm} {x4 : Int32} (h : (vp_in (x4 + (1 : Int32)) Ls ∧ (Ct ad μX11_hopes d [.ref (ad 0), .int (xs (x4 + (1 : Int32)).toNatClampNeg)] m (fun r m1 => ∃ v2 : Int32, r = some (.int v2) ∧ (vp_in (x4 + (1 : Int32)) Ls ∧ (Ct ad μX12_hopes d [.ref (ad 187), .int (xs (x4 + (1 : Int32)).toNatClampNeg)] m1 (fun r m3 => ∃ v4 : Int32, r = some (.int v4) ∧ AWl LAY ad (EX (SX sb Ls xs) kc ks LAY) μL_law (d + 1) Q 23 [(0, .ref sb), (1, .ref (ad 0)), (2, .ref (ad 187)), (3, .ref (ad 217)), (4, .int (x4 + (6 : Int32)))] [] m3))))))) : AWl LAY ad (EX (SX sb Ls xs) (kc + 1) (ks + 6) LAY) μL_law (d + 1) Q 1086 [(0, .ref sb), (1, .ref (ad 0)), (2, .ref (ad 187)), (3, .ref (ad 217)), (4, .int x4)] [] m := by
  refine aw_aload_n (j := 1) dL_law_1086 rfl rfl ?_
  refine aw_aload_n (j := 0) dL_law_1087 rfl rfl ?_
  refine aw_iload (j := 4) dL_law_1088 rfl ?_
  refine aw_iconst (v := 1) dL_law_1090 (by decide) ?_
  refine aw_iadd dL_law_1091 ?_
  obtain ⟨hi, h⟩ := h
  refine aw_sld dL_law_1092 hi ?_
  refine aw_callV (rest := []) [.int (xs (x4 + (1 : Int32)).toNatClampNeg)] dL_law_1093 ly_0 rfl k_L_143 rfl h (Nat.le_of_ble_eq_true rfl) (fun v m1 h => ?_)
  obtain ⟨v2, rfl, h⟩ := h
  refine aw_eq (L' := [(0, .ref sb), (1, .ref (ad 0)), (2, .ref (ad 187)), (3, .ref (ad 217)), (4, .int x4)]) (st' := [.int v2]) (m' := m1) ?_ rfl rfl rfl
  refine aw_pop dL_law_1096 rfl ?_
  refine aw_aload_n (j := 2) dL_law_1097 rfl rfl ?_
  refine aw_aload_n (j := 0) dL_law_1098 rfl rfl ?_
  refine aw_iload (j := 4) dL_law_1099 rfl ?_
  refine aw_iconst (v := 1) dL_law_1101 (by decide) ?_
  refine aw_iadd dL_law_1102 ?_
  obtain ⟨hi, h⟩ := h
  refine aw_sld dL_law_1103 hi ?_
  refine aw_callV (rest := []) [.int (xs (x4 + (1 : Int32)).toNatClampNeg)] dL_law_1104 ly_187 rfl k_L_146 rfl h (Nat.le_of_ble_eq_true rfl) (fun v m3 h => ?_)
  obtain ⟨v4, rfl, h⟩ := h
  refine aw_eq (L' := [(0, .ref sb), (1, .ref (ad 0)), (2, .ref (ad 187)), (3, .ref (ad 217)), (4, .int x4)]) (st' := [.int v4]) (m' := m3) ?_ rfl rfl rfl
  refine aw_pop dL_law_1107 rfl ?_
  refine aw_goto (tgt := 1550) dL_law_1108 (by decide) ?_
  refine aw_iinc (j := 4) (v := x4 + (6 : Int32)) (L' := [(4, .int (x4 + (6 : Int32))), (0, .ref sb), (1, .ref (ad 0)), (2, .ref (ad 187)), (3, .ref (ad 217))]) dL_law_1550 rfl rfl (by decide) rfl ?_
  refine aw_goto (tgt := 23) dL_law_1553 (by decide) ?_
  exact aw_drop (Nat.le_succ _) (Nat.le_add_right _ _) (aw_sub [1, 2, 3, 4, 0] rfl h)
set_option maxRecDepth 100000 in
set_option maxHeartbeats 4000000 in
theorem g_L_law_1111 {ad : Nat → Nat} {sb Ls kc ks : Nat} {xs : Nat → Int32} {d : Nat} {Q : Option Value → Wm → Prop} {m : Wm} {x4 : Int32} (h : (vp_in (x4 + (1 : Int32)) Ls ∧ (vp_in (x4 + (2 : Int32)) Ls ∧ (vp_in (x4 + (3 : Int32)) Ls ∧ (Ct ad μX11_top d [.ref (ad 0), .int (xs (x4 + (1 : Int32)).toNatClampNeg), .int (xs (x4 + (2 : Int32)).toNatClampNeg), .int (xs (x4 + (3 : Int32)).toNatClampNeg)] m (fun r m1 => ∃ v2 : Int32, r = some (.int v2) ∧ (vp_in (x4 + (1 : Int32)) Ls ∧ (vp_in (x4 + (2 : Int32)) Ls ∧ (vp_in (x4 + (3 : Int32)) Ls ∧ (Ct ad μX12_top d [.ref (ad 187), .int (xs (x4 + (1 : Int32)).toNatClampNeg), .int (xs (x4 + (2 : Int32)).toNatClampNeg), .int (xs (x4 + (3 : Int32)).toNatClampNeg)] m1 (fun r m3 => ∃ v4 : Int32, r = some (.int v4) ∧ AWl LAY ad (EX (SX sb Ls xs) kc ks LAY) μL_law (d + 1) Q 23 [(0, .ref sb), (1, .ref (ad 0)), (2, .ref (ad 187)), (3, .ref (ad 217)), (4, .int (x4 + (6 : Int32)))] [] m3))))))))))) : AWl LAY ad (EX (SX sb Ls xs) (kc + 1) (ks + 6) LAY) μL_law (d + 1) Q 1111 [(0, .ref sb), (1, .ref (ad 0)), (2, .ref (ad 187)), (3, .ref (ad 217)), (4, .int x4)] [] m := by
  refine aw_aload_n (j := 1) dL_law_1111 rfl rfl ?_
  refine aw_aload_n (j := 0) dL_law_1112 rfl rfl ?_
  refine aw_iload (j := 4) dL_law_1113 rfl ?_
  refine aw_iconst (v := 1) dL_law_1115 (by decide) ?_
  refine aw_iadd dL_law_1116 ?_
  obtain ⟨hi, h⟩ := h
  refine aw_sld dL_law_1117 hi ?_
  refine aw_aload_n (j := 0) dL_law_1118 rfl rfl ?_
  refine aw_iload (j := 4) dL_law_1119 rfl ?_
  refine aw_iconst (v := 2) dL_law_1121 (by decide) ?_
  refine aw_iadd dL_law_1122 ?_
  obtain ⟨hi, h⟩ := h
  refine aw_sld dL_law_1123 hi ?_
  refine aw_aload_n (j := 0) dL_law_1124 rfl rfl ?_
  refine aw_iload (j := 4) dL_law_1125 rfl ?_
  refine aw_iconst (v := 3) dL_law_1127 (by decide) ?_
  refine aw_iadd dL_law_1128 ?_
  obtain ⟨hi, h⟩ := h
  refine aw_sld dL_law_1129 hi ?_
  refine aw_callV (rest := []) [.int (xs (x4 + (1 : Int32)).toNatClampNeg), .int (xs (x4 + (2 : Int32)).toNatClampNeg), .int (xs (x4 + (3 : Int32)).toNatClampNeg)] dL_law_1130 ly_0 rfl k_L_147 rfl h (Nat.le_of_ble_eq_true rfl) (fun v m1 h => ?_)
  obtain ⟨v2, rfl, h⟩ := h
  refine aw_eq (L' := [(0, .ref sb), (1, .ref (ad 0)), (2, .ref (ad 187)), (3, .ref (ad 217)), (4, .int x4)]) (st' := [.int v2]) (m' := m1) ?_ rfl rfl rfl
  refine aw_pop dL_law_1133 rfl ?_
  refine aw_aload_n (j := 2) dL_law_1134 rfl rfl ?_
  refine aw_aload_n (j := 0) dL_law_1135 rfl rfl ?_
  refine aw_iload (j := 4) dL_law_1136 rfl ?_
  refine aw_iconst (v := 1) dL_law_1138 (by decide) ?_
  refine aw_iadd dL_law_1139 ?_
  obtain ⟨hi, h⟩ := h
  refine aw_sld dL_law_1140 hi ?_
  refine aw_aload_n (j := 0) dL_law_1141 rfl rfl ?_
  refine aw_iload (j := 4) dL_law_1142 rfl ?_
  refine aw_iconst (v := 2) dL_law_1144 (by decide) ?_
  refine aw_iadd dL_law_1145 ?_
  obtain ⟨hi, h⟩ := h
  refine aw_sld dL_law_1146 hi ?_
  refine aw_aload_n (j := 0) dL_law_1147 rfl rfl ?_
  refine aw_iload (j := 4) dL_law_1148 rfl ?_
  refine aw_iconst (v := 3) dL_law_1150 (by decide) ?_
  refine aw_iadd dL_law_1151 ?_
  obtain ⟨hi, h⟩ := h
  refine aw_sld dL_law_1152 hi ?_
  refine aw_callV (rest := []) [.int (xs (x4 + (1 : Int32)).toNatClampNeg), .int (xs (x4 + (2 : Int32)).toNatClampNeg), .int (xs (x4 + (3 : Int32)).toNatClampNeg)] dL_law_1153 ly_187 rfl k_L_150 rfl h (Nat.le_of_ble_eq_true rfl) (fun v m3 h => ?_)
  obtain ⟨v4, rfl, h⟩ := h
  refine aw_eq (L' := [(0, .ref sb), (1, .ref (ad 0)), (2, .ref (ad 187)), (3, .ref (ad 217)), (4, .int x4)]) (st' := [.int v4]) (m' := m3) ?_ rfl rfl rfl
  refine aw_pop dL_law_1156 rfl ?_
  refine aw_goto (tgt := 1550) dL_law_1157 (by decide) ?_
  refine aw_iinc (j := 4) (v := x4 + (6 : Int32)) (L' := [(4, .int (x4 + (6 : Int32))), (0, .ref sb), (1, .ref (ad 0)), (2, .ref (ad 187)), (3, .ref (ad 217))]) dL_law_1550 rfl rfl (by decide) rfl ?_
  refine aw_goto (tgt := 23) dL_law_1553 (by decide) ?_
  exact aw_drop (Nat.le_succ _) (Nat.le_add_right _ _) (aw_sub [1, 2, 3, 4, 0] rfl h)
set_option maxRecDepth 100000 in
set_option maxHeartbeats 4000000 in
theorem g_L_law_1160 {ad : Nat → Nat} {sb Ls kc ks : Nat} {xs : Nat → Int32} {d : Nat} {Q : Option Value → Wm → Prop} {m : Wm} {x4 : Int32} (h : (vp_in (x4 + (1 : Int32)) Ls ∧ (Ct ad μX11_quick d [.ref (ad 0), .int (xs (x4 + (1 : Int32)).toNatClampNeg)] m (fun r m1 => ∃ v2 : Int32, r = some (.int v2) ∧ (vp_in (x4 + (1 : Int32)) Ls ∧ (Ct ad μX12_quick d [.ref (ad 187), .int (xs (x4 + (1 : Int32)).toNatClampNeg)] m1 (fun r m3 => ∃ v4 : Int32, r = some (.int v4) ∧ AWl LAY ad (EX (SX sb Ls xs) kc ks LAY) μL_law (d + 1) Q 23 [(0, .ref sb), (1, .ref (ad 0)), (2, .ref (ad 187)), (3, .ref (ad 217)), (4, .int (x4 + (6 : Int32)))] [] m3))))))) : AWl LAY ad (EX (SX sb Ls xs) (kc + 1) (ks + 6) LAY) μL_law (d + 1) Q 1160 [(0, .ref sb), (1, .ref (ad 0)), (2, .ref (ad 187)), (3, .ref (ad 217)), (4, .int x4)] [] m := by
  refine aw_aload_n (j := 1) dL_law_1160 rfl rfl ?_
  refine aw_aload_n (j := 0) dL_law_1161 rfl rfl ?_
  refine aw_iload (j := 4) dL_law_1162 rfl ?_
  refine aw_iconst (v := 1) dL_law_1164 (by decide) ?_
  refine aw_iadd dL_law_1165 ?_
  obtain ⟨hi, h⟩ := h
  refine aw_sld dL_law_1166 hi ?_
  refine aw_callV (rest := []) [.int (xs (x4 + (1 : Int32)).toNatClampNeg)] dL_law_1167 ly_0 rfl k_L_151 rfl h (Nat.le_of_ble_eq_true rfl) (fun v m1 h => ?_)
  obtain ⟨v2, rfl, h⟩ := h
  refine aw_eq (L' := [(0, .ref sb), (1, .ref (ad 0)), (2, .ref (ad 187)), (3, .ref (ad 217)), (4, .int x4)]) (st' := [.int v2]) (m' := m1) ?_ rfl rfl rfl
  refine aw_pop dL_law_1170 rfl ?_
  refine aw_aload_n (j := 2) dL_law_1171 rfl rfl ?_
  refine aw_aload_n (j := 0) dL_law_1172 rfl rfl ?_
  refine aw_iload (j := 4) dL_law_1173 rfl ?_
  refine aw_iconst (v := 1) dL_law_1175 (by decide) ?_
  refine aw_iadd dL_law_1176 ?_
  obtain ⟨hi, h⟩ := h
  refine aw_sld dL_law_1177 hi ?_
  refine aw_callV (rest := []) [.int (xs (x4 + (1 : Int32)).toNatClampNeg)] dL_law_1178 ly_187 rfl k_L_154 rfl h (Nat.le_of_ble_eq_true rfl) (fun v m3 h => ?_)
  obtain ⟨v4, rfl, h⟩ := h
  refine aw_eq (L' := [(0, .ref sb), (1, .ref (ad 0)), (2, .ref (ad 187)), (3, .ref (ad 217)), (4, .int x4)]) (st' := [.int v4]) (m' := m3) ?_ rfl rfl rfl
  refine aw_pop dL_law_1181 rfl ?_
  refine aw_goto (tgt := 1550) dL_law_1182 (by decide) ?_
  refine aw_iinc (j := 4) (v := x4 + (6 : Int32)) (L' := [(4, .int (x4 + (6 : Int32))), (0, .ref sb), (1, .ref (ad 0)), (2, .ref (ad 187)), (3, .ref (ad 217))]) dL_law_1550 rfl rfl (by decide) rfl ?_
  refine aw_goto (tgt := 23) dL_law_1553 (by decide) ?_
  exact aw_drop (Nat.le_succ _) (Nat.le_add_right _ _) (aw_sub [1, 2, 3, 4, 0] rfl h)
set_option maxRecDepth 100000 in
set_option maxHeartbeats 4000000 in
theorem g_L_law_1185 {ad : Nat → Nat} {sb Ls kc ks : Nat} {xs : Nat → Int32} {d : Nat} {Q : Option Value → Wm → Prop} {m : Wm} {x4 : Int32} (h : (vp_in (x4 + (1 : Int32)) Ls ∧ (vp_in (x4 + (2 : Int32)) Ls ∧ (Ct ad μX11_best d [.ref (ad 0), .int (xs (x4 + (1 : Int32)).toNatClampNeg), .int (xs (x4 + (2 : Int32)).toNatClampNeg)] m (fun r m1 => ∃ v2 : Int32, r = some (.int v2) ∧ (vp_in (x4 + (1 : Int32)) Ls ∧ (vp_in (x4 + (2 : Int32)) Ls ∧ (Ct ad μX12_best d [.ref (ad 187), .int (xs (x4 + (1 : Int32)).toNatClampNeg), .int (xs (x4 + (2 : Int32)).toNatClampNeg)] m1 (fun r m3 => ∃ v4 : Int32, r = some (.int v4) ∧ AWl LAY ad (EX (SX sb Ls xs) kc ks LAY) μL_law (d + 1) Q 23 [(0, .ref sb), (1, .ref (ad 0)), (2, .ref (ad 187)), (3, .ref (ad 217)), (4, .int (x4 + (6 : Int32)))] [] m3))))))))) : AWl LAY ad (EX (SX sb Ls xs) (kc + 1) (ks + 6) LAY) μL_law (d + 1) Q 1185 [(0, .ref sb), (1, .ref (ad 0)), (2, .ref (ad 187)), (3, .ref (ad 217)), (4, .int x4)] [] m := by
  refine aw_aload_n (j := 1) dL_law_1185 rfl rfl ?_
  refine aw_aload_n (j := 0) dL_law_1186 rfl rfl ?_
  refine aw_iload (j := 4) dL_law_1187 rfl ?_
  refine aw_iconst (v := 1) dL_law_1189 (by decide) ?_
  refine aw_iadd dL_law_1190 ?_
  obtain ⟨hi, h⟩ := h
  refine aw_sld dL_law_1191 hi ?_
  refine aw_aload_n (j := 0) dL_law_1192 rfl rfl ?_
  refine aw_iload (j := 4) dL_law_1193 rfl ?_
  refine aw_iconst (v := 2) dL_law_1195 (by decide) ?_
  refine aw_iadd dL_law_1196 ?_
  obtain ⟨hi, h⟩ := h
  refine aw_sld dL_law_1197 hi ?_
  refine aw_callV (rest := []) [.int (xs (x4 + (1 : Int32)).toNatClampNeg), .int (xs (x4 + (2 : Int32)).toNatClampNeg)] dL_law_1198 ly_0 rfl k_L_155 rfl h (Nat.le_of_ble_eq_true rfl) (fun v m1 h => ?_)
  obtain ⟨v2, rfl, h⟩ := h
  refine aw_eq (L' := [(0, .ref sb), (1, .ref (ad 0)), (2, .ref (ad 187)), (3, .ref (ad 217)), (4, .int x4)]) (st' := [.int v2]) (m' := m1) ?_ rfl rfl rfl
  refine aw_pop dL_law_1201 rfl ?_
  refine aw_aload_n (j := 2) dL_law_1202 rfl rfl ?_
  refine aw_aload_n (j := 0) dL_law_1203 rfl rfl ?_
  refine aw_iload (j := 4) dL_law_1204 rfl ?_
  refine aw_iconst (v := 1) dL_law_1206 (by decide) ?_
  refine aw_iadd dL_law_1207 ?_
  obtain ⟨hi, h⟩ := h
  refine aw_sld dL_law_1208 hi ?_
  refine aw_aload_n (j := 0) dL_law_1209 rfl rfl ?_
  refine aw_iload (j := 4) dL_law_1210 rfl ?_
  refine aw_iconst (v := 2) dL_law_1212 (by decide) ?_
  refine aw_iadd dL_law_1213 ?_
  obtain ⟨hi, h⟩ := h
  refine aw_sld dL_law_1214 hi ?_
  refine aw_callV (rest := []) [.int (xs (x4 + (1 : Int32)).toNatClampNeg), .int (xs (x4 + (2 : Int32)).toNatClampNeg)] dL_law_1215 ly_187 rfl k_L_158 rfl h (Nat.le_of_ble_eq_true rfl) (fun v m3 h => ?_)
  obtain ⟨v4, rfl, h⟩ := h
  refine aw_eq (L' := [(0, .ref sb), (1, .ref (ad 0)), (2, .ref (ad 187)), (3, .ref (ad 217)), (4, .int x4)]) (st' := [.int v4]) (m' := m3) ?_ rfl rfl rfl
  refine aw_pop dL_law_1218 rfl ?_
  refine aw_goto (tgt := 1550) dL_law_1219 (by decide) ?_
  refine aw_iinc (j := 4) (v := x4 + (6 : Int32)) (L' := [(4, .int (x4 + (6 : Int32))), (0, .ref sb), (1, .ref (ad 0)), (2, .ref (ad 187)), (3, .ref (ad 217))]) dL_law_1550 rfl rfl (by decide) rfl ?_
  refine aw_goto (tgt := 23) dL_law_1553 (by decide) ?_
  exact aw_drop (Nat.le_succ _) (Nat.le_add_right _ _) (aw_sub [1, 2, 3, 4, 0] rfl h)
set_option maxRecDepth 100000 in
set_option maxHeartbeats 4000000 in
theorem g_L_law_1222 {ad : Nat → Nat} {sb Ls kc ks : Nat} {xs : Nat → Int32} {d : Nat} {Q : Option Value → Wm → Prop} {m : Wm} {x4 : Int32} (h : (vp_in (x4 + (1 : Int32)) Ls ∧ (Ct ad μX11_even d [.ref (ad 0), .int (xs (x4 + (1 : Int32)).toNatClampNeg)] m (fun r m1 => ∃ v2 : Int32, r = some (.int v2) ∧ (vp_in (x4 + (1 : Int32)) Ls ∧ (Ct ad μX12_even d [.ref (ad 187), .int (xs (x4 + (1 : Int32)).toNatClampNeg)] m1 (fun r m3 => ∃ v4 : Int32, r = some (.int v4) ∧ AWl LAY ad (EX (SX sb Ls xs) kc ks LAY) μL_law (d + 1) Q 23 [(0, .ref sb), (1, .ref (ad 0)), (2, .ref (ad 187)), (3, .ref (ad 217)), (4, .int (x4 + (6 : Int32)))] [] m3))))))) : AWl LAY ad (EX (SX sb Ls xs) (kc + 1) (ks + 6) LAY) μL_law (d + 1) Q 1222 [(0, .ref sb), (1, .ref (ad 0)), (2, .ref (ad 187)), (3, .ref (ad 217)), (4, .int x4)] [] m := by
  refine aw_aload_n (j := 1) dL_law_1222 rfl rfl ?_
  refine aw_aload_n (j := 0) dL_law_1223 rfl rfl ?_
  refine aw_iload (j := 4) dL_law_1224 rfl ?_
  refine aw_iconst (v := 1) dL_law_1226 (by decide) ?_
  refine aw_iadd dL_law_1227 ?_
  obtain ⟨hi, h⟩ := h
  refine aw_sld dL_law_1228 hi ?_
  refine aw_callV (rest := []) [.int (xs (x4 + (1 : Int32)).toNatClampNeg)] dL_law_1229 ly_0 rfl k_L_159 rfl h (Nat.le_of_ble_eq_true rfl) (fun v m1 h => ?_)
  obtain ⟨v2, rfl, h⟩ := h
  refine aw_eq (L' := [(0, .ref sb), (1, .ref (ad 0)), (2, .ref (ad 187)), (3, .ref (ad 217)), (4, .int x4)]) (st' := [.int v2]) (m' := m1) ?_ rfl rfl rfl
  refine aw_pop dL_law_1232 rfl ?_
  refine aw_aload_n (j := 2) dL_law_1233 rfl rfl ?_
  refine aw_aload_n (j := 0) dL_law_1234 rfl rfl ?_
  refine aw_iload (j := 4) dL_law_1235 rfl ?_
  refine aw_iconst (v := 1) dL_law_1237 (by decide) ?_
  refine aw_iadd dL_law_1238 ?_
  obtain ⟨hi, h⟩ := h
  refine aw_sld dL_law_1239 hi ?_
  refine aw_callV (rest := []) [.int (xs (x4 + (1 : Int32)).toNatClampNeg)] dL_law_1240 ly_187 rfl k_L_162 rfl h (Nat.le_of_ble_eq_true rfl) (fun v m3 h => ?_)
  obtain ⟨v4, rfl, h⟩ := h
  refine aw_eq (L' := [(0, .ref sb), (1, .ref (ad 0)), (2, .ref (ad 187)), (3, .ref (ad 217)), (4, .int x4)]) (st' := [.int v4]) (m' := m3) ?_ rfl rfl rfl
  refine aw_pop dL_law_1243 rfl ?_
  refine aw_goto (tgt := 1550) dL_law_1244 (by decide) ?_
  refine aw_iinc (j := 4) (v := x4 + (6 : Int32)) (L' := [(4, .int (x4 + (6 : Int32))), (0, .ref sb), (1, .ref (ad 0)), (2, .ref (ad 187)), (3, .ref (ad 217))]) dL_law_1550 rfl rfl (by decide) rfl ?_
  refine aw_goto (tgt := 23) dL_law_1553 (by decide) ?_
  exact aw_drop (Nat.le_succ _) (Nat.le_add_right _ _) (aw_sub [1, 2, 3, 4, 0] rfl h)
set_option maxRecDepth 100000 in
set_option maxHeartbeats 4000000 in
theorem g_L_law_1247 {ad : Nat → Nat} {sb Ls kc ks : Nat} {xs : Nat → Int32} {d : Nat} {Q : Option Value → Wm → Prop} {m : Wm} {x4 : Int32} (h : (Ct ad μX11_all d [.ref (ad 0)] m (fun r m1 => ∃ v2 : Int32, r = some (.int v2) ∧ (Ct ad μX12_all d [.ref (ad 187)] m1 (fun r m3 => ∃ v4 : Int32, r = some (.int v4) ∧ AWl LAY ad (EX (SX sb Ls xs) kc ks LAY) μL_law (d + 1) Q 23 [(0, .ref sb), (1, .ref (ad 0)), (2, .ref (ad 187)), (3, .ref (ad 217)), (4, .int (x4 + (6 : Int32)))] [] m3))))) : AWl LAY ad (EX (SX sb Ls xs) (kc + 1) (ks + 6) LAY) μL_law (d + 1) Q 1247 [(0, .ref sb), (1, .ref (ad 0)), (2, .ref (ad 187)), (3, .ref (ad 217)), (4, .int x4)] [] m := by
  refine aw_aload_n (j := 1) dL_law_1247 rfl rfl ?_
  refine aw_callV (rest := []) [] dL_law_1248 ly_0 rfl k_L_163 rfl h (Nat.le_of_ble_eq_true rfl) (fun v m1 h => ?_)
  obtain ⟨v2, rfl, h⟩ := h
  refine aw_eq (L' := [(0, .ref sb), (1, .ref (ad 0)), (2, .ref (ad 187)), (3, .ref (ad 217)), (4, .int x4)]) (st' := [.int v2]) (m' := m1) ?_ rfl rfl rfl
  refine aw_pop dL_law_1251 rfl ?_
  refine aw_aload_n (j := 2) dL_law_1252 rfl rfl ?_
  refine aw_callV (rest := []) [] dL_law_1253 ly_187 rfl k_L_166 rfl h (Nat.le_of_ble_eq_true rfl) (fun v m3 h => ?_)
  obtain ⟨v4, rfl, h⟩ := h
  refine aw_eq (L' := [(0, .ref sb), (1, .ref (ad 0)), (2, .ref (ad 187)), (3, .ref (ad 217)), (4, .int x4)]) (st' := [.int v4]) (m' := m3) ?_ rfl rfl rfl
  refine aw_pop dL_law_1256 rfl ?_
  refine aw_goto (tgt := 1550) dL_law_1257 (by decide) ?_
  refine aw_iinc (j := 4) (v := x4 + (6 : Int32)) (L' := [(4, .int (x4 + (6 : Int32))), (0, .ref sb), (1, .ref (ad 0)), (2, .ref (ad 187)), (3, .ref (ad 217))]) dL_law_1550 rfl rfl (by decide) rfl ?_
  refine aw_goto (tgt := 23) dL_law_1553 (by decide) ?_
  exact aw_drop (Nat.le_succ _) (Nat.le_add_right _ _) (aw_sub [1, 2, 3, 4, 0] rfl h)
set_option maxRecDepth 100000 in
set_option maxHeartbeats 4000000 in
theorem g_L_law_1260 {ad : Nat → Nat} {sb Ls kc ks : Nat} {xs : Nat → Int32} {d : Nat} {Q : Option Value → Wm → Prop} {m : Wm} {x4 : Int32} (h : (vp_in (x4 + (1 : Int32)) Ls ∧ (Ct ad μX11_next d [.ref (ad 0), .int (xs (x4 + (1 : Int32)).toNatClampNeg)] m (fun r m1 => ∃ v2 : Int32, r = some (.int v2) ∧ (vp_in (x4 + (1 : Int32)) Ls ∧ (Ct ad μX12_next d [.ref (ad 187), .int (xs (x4 + (1 : Int32)).toNatClampNeg)] m1 (fun r m3 => ∃ v4 : Int32, r = some (.int v4) ∧ AWl LAY ad (EX (SX sb Ls xs) kc ks LAY) μL_law (d + 1) Q 23 [(0, .ref sb), (1, .ref (ad 0)), (2, .ref (ad 187)), (3, .ref (ad 217)), (4, .int (x4 + (6 : Int32)))] [] m3))))))) : AWl LAY ad (EX (SX sb Ls xs) (kc + 1) (ks + 6) LAY) μL_law (d + 1) Q 1260 [(0, .ref sb), (1, .ref (ad 0)), (2, .ref (ad 187)), (3, .ref (ad 217)), (4, .int x4)] [] m := by
  refine aw_aload_n (j := 1) dL_law_1260 rfl rfl ?_
  refine aw_aload_n (j := 0) dL_law_1261 rfl rfl ?_
  refine aw_iload (j := 4) dL_law_1262 rfl ?_
  refine aw_iconst (v := 1) dL_law_1264 (by decide) ?_
  refine aw_iadd dL_law_1265 ?_
  obtain ⟨hi, h⟩ := h
  refine aw_sld dL_law_1266 hi ?_
  refine aw_callV (rest := []) [.int (xs (x4 + (1 : Int32)).toNatClampNeg)] dL_law_1267 ly_0 rfl k_L_167 rfl h (Nat.le_of_ble_eq_true rfl) (fun v m1 h => ?_)
  obtain ⟨v2, rfl, h⟩ := h
  refine aw_eq (L' := [(0, .ref sb), (1, .ref (ad 0)), (2, .ref (ad 187)), (3, .ref (ad 217)), (4, .int x4)]) (st' := [.int v2]) (m' := m1) ?_ rfl rfl rfl
  refine aw_pop dL_law_1270 rfl ?_
  refine aw_aload_n (j := 2) dL_law_1271 rfl rfl ?_
  refine aw_aload_n (j := 0) dL_law_1272 rfl rfl ?_
  refine aw_iload (j := 4) dL_law_1273 rfl ?_
  refine aw_iconst (v := 1) dL_law_1275 (by decide) ?_
  refine aw_iadd dL_law_1276 ?_
  obtain ⟨hi, h⟩ := h
  refine aw_sld dL_law_1277 hi ?_
  refine aw_callV (rest := []) [.int (xs (x4 + (1 : Int32)).toNatClampNeg)] dL_law_1278 ly_187 rfl k_L_170 rfl h (Nat.le_of_ble_eq_true rfl) (fun v m3 h => ?_)
  obtain ⟨v4, rfl, h⟩ := h
  refine aw_eq (L' := [(0, .ref sb), (1, .ref (ad 0)), (2, .ref (ad 187)), (3, .ref (ad 217)), (4, .int x4)]) (st' := [.int v4]) (m' := m3) ?_ rfl rfl rfl
  refine aw_pop dL_law_1281 rfl ?_
  refine aw_goto (tgt := 1550) dL_law_1282 (by decide) ?_
  refine aw_iinc (j := 4) (v := x4 + (6 : Int32)) (L' := [(4, .int (x4 + (6 : Int32))), (0, .ref sb), (1, .ref (ad 0)), (2, .ref (ad 187)), (3, .ref (ad 217))]) dL_law_1550 rfl rfl (by decide) rfl ?_
  refine aw_goto (tgt := 23) dL_law_1553 (by decide) ?_
  exact aw_drop (Nat.le_succ _) (Nat.le_add_right _ _) (aw_sub [1, 2, 3, 4, 0] rfl h)
set_option maxRecDepth 100000 in
set_option maxHeartbeats 4000000 in
theorem g_L_law_1285 {ad : Nat → Nat} {sb Ls kc ks : Nat} {xs : Nat → Int32} {d : Nat} {Q : Option Value → Wm → Prop} {m : Wm} {x4 : Int32} (h : (vp_in (x4 + (1 : Int32)) Ls ∧ (vp_in (x4 + (2 : Int32)) Ls ∧ (vp_in (x4 + (3 : Int32)) Ls ∧ (Ct ad μX11_seen d [.ref (ad 0), .int (xs (x4 + (1 : Int32)).toNatClampNeg), .int (xs (x4 + (2 : Int32)).toNatClampNeg), .int (xs (x4 + (3 : Int32)).toNatClampNeg)] m (fun r m1 => ∃ v2 : Int32, r = some (.int v2) ∧ (vp_in (x4 + (1 : Int32)) Ls ∧ (vp_in (x4 + (2 : Int32)) Ls ∧ (vp_in (x4 + (3 : Int32)) Ls ∧ (Ct ad μX12_seen d [.ref (ad 187), .int (xs (x4 + (1 : Int32)).toNatClampNeg), .int (xs (x4 + (2 : Int32)).toNatClampNeg), .int (xs (x4 + (3 : Int32)).toNatClampNeg)] m1 (fun r m3 => ∃ v4 : Int32, r = some (.int v4) ∧ AWl LAY ad (EX (SX sb Ls xs) kc ks LAY) μL_law (d + 1) Q 23 [(0, .ref sb), (1, .ref (ad 0)), (2, .ref (ad 187)), (3, .ref (ad 217)), (4, .int (x4 + (6 : Int32)))] [] m3))))))))))) : AWl LAY ad (EX (SX sb Ls xs) (kc + 1) (ks + 6) LAY) μL_law (d + 1) Q 1285 [(0, .ref sb), (1, .ref (ad 0)), (2, .ref (ad 187)), (3, .ref (ad 217)), (4, .int x4)] [] m := by
  refine aw_aload_n (j := 1) dL_law_1285 rfl rfl ?_
  refine aw_aload_n (j := 0) dL_law_1286 rfl rfl ?_
  refine aw_iload (j := 4) dL_law_1287 rfl ?_
  refine aw_iconst (v := 1) dL_law_1289 (by decide) ?_
  refine aw_iadd dL_law_1290 ?_
  obtain ⟨hi, h⟩ := h
  refine aw_sld dL_law_1291 hi ?_
  refine aw_aload_n (j := 0) dL_law_1292 rfl rfl ?_
  refine aw_iload (j := 4) dL_law_1293 rfl ?_
  refine aw_iconst (v := 2) dL_law_1295 (by decide) ?_
  refine aw_iadd dL_law_1296 ?_
  obtain ⟨hi, h⟩ := h
  refine aw_sld dL_law_1297 hi ?_
  refine aw_aload_n (j := 0) dL_law_1298 rfl rfl ?_
  refine aw_iload (j := 4) dL_law_1299 rfl ?_
  refine aw_iconst (v := 3) dL_law_1301 (by decide) ?_
  refine aw_iadd dL_law_1302 ?_
  obtain ⟨hi, h⟩ := h
  refine aw_sld dL_law_1303 hi ?_
  refine aw_callV (rest := []) [.int (xs (x4 + (1 : Int32)).toNatClampNeg), .int (xs (x4 + (2 : Int32)).toNatClampNeg), .int (xs (x4 + (3 : Int32)).toNatClampNeg)] dL_law_1304 ly_0 rfl k_L_171 rfl h (Nat.le_of_ble_eq_true rfl) (fun v m1 h => ?_)
  obtain ⟨v2, rfl, h⟩ := h
  refine aw_eq (L' := [(0, .ref sb), (1, .ref (ad 0)), (2, .ref (ad 187)), (3, .ref (ad 217)), (4, .int x4)]) (st' := [.int v2]) (m' := m1) ?_ rfl rfl rfl
  refine aw_pop dL_law_1307 rfl ?_
  refine aw_aload_n (j := 2) dL_law_1308 rfl rfl ?_
  refine aw_aload_n (j := 0) dL_law_1309 rfl rfl ?_
  refine aw_iload (j := 4) dL_law_1310 rfl ?_
  refine aw_iconst (v := 1) dL_law_1312 (by decide) ?_
  refine aw_iadd dL_law_1313 ?_
  obtain ⟨hi, h⟩ := h
  refine aw_sld dL_law_1314 hi ?_
  refine aw_aload_n (j := 0) dL_law_1315 rfl rfl ?_
  refine aw_iload (j := 4) dL_law_1316 rfl ?_
  refine aw_iconst (v := 2) dL_law_1318 (by decide) ?_
  refine aw_iadd dL_law_1319 ?_
  obtain ⟨hi, h⟩ := h
  refine aw_sld dL_law_1320 hi ?_
  refine aw_aload_n (j := 0) dL_law_1321 rfl rfl ?_
  refine aw_iload (j := 4) dL_law_1322 rfl ?_
  refine aw_iconst (v := 3) dL_law_1324 (by decide) ?_
  refine aw_iadd dL_law_1325 ?_
  obtain ⟨hi, h⟩ := h
  refine aw_sld dL_law_1326 hi ?_
  refine aw_callV (rest := []) [.int (xs (x4 + (1 : Int32)).toNatClampNeg), .int (xs (x4 + (2 : Int32)).toNatClampNeg), .int (xs (x4 + (3 : Int32)).toNatClampNeg)] dL_law_1327 ly_187 rfl k_L_174 rfl h (Nat.le_of_ble_eq_true rfl) (fun v m3 h => ?_)
  obtain ⟨v4, rfl, h⟩ := h
  refine aw_eq (L' := [(0, .ref sb), (1, .ref (ad 0)), (2, .ref (ad 187)), (3, .ref (ad 217)), (4, .int x4)]) (st' := [.int v4]) (m' := m3) ?_ rfl rfl rfl
  refine aw_pop dL_law_1330 rfl ?_
  refine aw_goto (tgt := 1550) dL_law_1331 (by decide) ?_
  refine aw_iinc (j := 4) (v := x4 + (6 : Int32)) (L' := [(4, .int (x4 + (6 : Int32))), (0, .ref sb), (1, .ref (ad 0)), (2, .ref (ad 187)), (3, .ref (ad 217))]) dL_law_1550 rfl rfl (by decide) rfl ?_
  refine aw_goto (tgt := 23) dL_law_1553 (by decide) ?_
  exact aw_drop (Nat.le_succ _) (Nat.le_add_right _ _) (aw_sub [1, 2, 3, 4, 0] rfl h)
set_option maxRecDepth 100000 in
set_option maxHeartbeats 4000000 in
theorem g_L_law_1334 {ad : Nat → Nat} {sb Ls kc ks : Nat} {xs : Nat → Int32} {d : Nat} {Q : Option Value → Wm → Prop} {m : Wm} {x4 : Int32} (h : (Ct ad μX11_found d [.ref (ad 0)] m (fun r m1 => ∃ v2 : Int32, r = some (.int v2) ∧ (Ct ad μX12_found d [.ref (ad 187)] m1 (fun r m3 => ∃ v4 : Int32, r = some (.int v4) ∧ AWl LAY ad (EX (SX sb Ls xs) kc ks LAY) μL_law (d + 1) Q 23 [(0, .ref sb), (1, .ref (ad 0)), (2, .ref (ad 187)), (3, .ref (ad 217)), (4, .int (x4 + (6 : Int32)))] [] m3))))) : AWl LAY ad (EX (SX sb Ls xs) (kc + 1) (ks + 6) LAY) μL_law (d + 1) Q 1334 [(0, .ref sb), (1, .ref (ad 0)), (2, .ref (ad 187)), (3, .ref (ad 217)), (4, .int x4)] [] m := by
  refine aw_aload_n (j := 1) dL_law_1334 rfl rfl ?_
  refine aw_callV (rest := []) [] dL_law_1335 ly_0 rfl k_L_175 rfl h (Nat.le_of_ble_eq_true rfl) (fun v m1 h => ?_)
  obtain ⟨v2, rfl, h⟩ := h
  refine aw_eq (L' := [(0, .ref sb), (1, .ref (ad 0)), (2, .ref (ad 187)), (3, .ref (ad 217)), (4, .int x4)]) (st' := [.int v2]) (m' := m1) ?_ rfl rfl rfl
  refine aw_pop dL_law_1338 rfl ?_
  refine aw_aload_n (j := 2) dL_law_1339 rfl rfl ?_
  refine aw_callV (rest := []) [] dL_law_1340 ly_187 rfl k_L_178 rfl h (Nat.le_of_ble_eq_true rfl) (fun v m3 h => ?_)
  obtain ⟨v4, rfl, h⟩ := h
  refine aw_eq (L' := [(0, .ref sb), (1, .ref (ad 0)), (2, .ref (ad 187)), (3, .ref (ad 217)), (4, .int x4)]) (st' := [.int v4]) (m' := m3) ?_ rfl rfl rfl
  refine aw_pop dL_law_1343 rfl ?_
  refine aw_goto (tgt := 1550) dL_law_1344 (by decide) ?_
  refine aw_iinc (j := 4) (v := x4 + (6 : Int32)) (L' := [(4, .int (x4 + (6 : Int32))), (0, .ref sb), (1, .ref (ad 0)), (2, .ref (ad 187)), (3, .ref (ad 217))]) dL_law_1550 rfl rfl (by decide) rfl ?_
  refine aw_goto (tgt := 23) dL_law_1553 (by decide) ?_
  exact aw_drop (Nat.le_succ _) (Nat.le_add_right _ _) (aw_sub [1, 2, 3, 4, 0] rfl h)
set_option maxRecDepth 100000 in
set_option maxHeartbeats 4000000 in
theorem g_L_law_1347 {ad : Nat → Nat} {sb Ls kc ks : Nat} {xs : Nat → Int32} {d : Nat} {Q : Option Value → Wm → Prop} {m : Wm} {x4 : Int32} (h : (Ct ad μX11_prize d [.ref (ad 0)] m (fun r m1 => ∃ v2 : Int32, r = some (.int v2) ∧ (Ct ad μX12_prize d [.ref (ad 187)] m1 (fun r m3 => ∃ v4 : Int32, r = some (.int v4) ∧ AWl LAY ad (EX (SX sb Ls xs) kc ks LAY) μL_law (d + 1) Q 23 [(0, .ref sb), (1, .ref (ad 0)), (2, .ref (ad 187)), (3, .ref (ad 217)), (4, .int (x4 + (6 : Int32)))] [] m3))))) : AWl LAY ad (EX (SX sb Ls xs) (kc + 1) (ks + 6) LAY) μL_law (d + 1) Q 1347 [(0, .ref sb), (1, .ref (ad 0)), (2, .ref (ad 187)), (3, .ref (ad 217)), (4, .int x4)] [] m := by
  refine aw_aload_n (j := 1) dL_law_1347 rfl rfl ?_
  refine aw_callV (rest := []) [] dL_law_1348 ly_0 rfl k_L_179 rfl h (Nat.le_of_ble_eq_true rfl) (fun v m1 h => ?_)
  obtain ⟨v2, rfl, h⟩ := h
  refine aw_eq (L' := [(0, .ref sb), (1, .ref (ad 0)), (2, .ref (ad 187)), (3, .ref (ad 217)), (4, .int x4)]) (st' := [.int v2]) (m' := m1) ?_ rfl rfl rfl
  refine aw_pop dL_law_1351 rfl ?_
  refine aw_aload_n (j := 2) dL_law_1352 rfl rfl ?_
  refine aw_callV (rest := []) [] dL_law_1353 ly_187 rfl k_L_182 rfl h (Nat.le_of_ble_eq_true rfl) (fun v m3 h => ?_)
  obtain ⟨v4, rfl, h⟩ := h
  refine aw_eq (L' := [(0, .ref sb), (1, .ref (ad 0)), (2, .ref (ad 187)), (3, .ref (ad 217)), (4, .int x4)]) (st' := [.int v4]) (m' := m3) ?_ rfl rfl rfl
  refine aw_pop dL_law_1356 rfl ?_
  refine aw_goto (tgt := 1550) dL_law_1357 (by decide) ?_
  refine aw_iinc (j := 4) (v := x4 + (6 : Int32)) (L' := [(4, .int (x4 + (6 : Int32))), (0, .ref sb), (1, .ref (ad 0)), (2, .ref (ad 187)), (3, .ref (ad 217))]) dL_law_1550 rfl rfl (by decide) rfl ?_
  refine aw_goto (tgt := 23) dL_law_1553 (by decide) ?_
  exact aw_drop (Nat.le_succ _) (Nat.le_add_right _ _) (aw_sub [1, 2, 3, 4, 0] rfl h)
set_option maxRecDepth 100000 in
set_option maxHeartbeats 4000000 in
theorem g_L_law_1360 {ad : Nat → Nat} {sb Ls kc ks : Nat} {xs : Nat → Int32} {d : Nat} {Q : Option Value → Wm → Prop} {m : Wm} {x4 : Int32} (h : (vp_in (x4 + (1 : Int32)) Ls ∧ (vp_in (x4 + (2 : Int32)) Ls ∧ (Ct ad μX11_pays d [.ref (ad 0), .int (xs (x4 + (1 : Int32)).toNatClampNeg), .int (xs (x4 + (2 : Int32)).toNatClampNeg)] m (fun r m1 => ∃ v2 : Int32, r = some (.int v2) ∧ (vp_in (x4 + (1 : Int32)) Ls ∧ (vp_in (x4 + (2 : Int32)) Ls ∧ (Ct ad μX12_pays d [.ref (ad 187), .int (xs (x4 + (1 : Int32)).toNatClampNeg), .int (xs (x4 + (2 : Int32)).toNatClampNeg)] m1 (fun r m3 => ∃ v4 : Int32, r = some (.int v4) ∧ AWl LAY ad (EX (SX sb Ls xs) kc ks LAY) μL_law (d + 1) Q 23 [(0, .ref sb), (1, .ref (ad 0)), (2, .ref (ad 187)), (3, .ref (ad 217)), (4, .int (x4 + (6 : Int32)))] [] m3))))))))) : AWl LAY ad (EX (SX sb Ls xs) (kc + 1) (ks + 6) LAY) μL_law (d + 1) Q 1360 [(0, .ref sb), (1, .ref (ad 0)), (2, .ref (ad 187)), (3, .ref (ad 217)), (4, .int x4)] [] m := by
  refine aw_aload_n (j := 1) dL_law_1360 rfl rfl ?_
  refine aw_aload_n (j := 0) dL_law_1361 rfl rfl ?_
  refine aw_iload (j := 4) dL_law_1362 rfl ?_
  refine aw_iconst (v := 1) dL_law_1364 (by decide) ?_
  refine aw_iadd dL_law_1365 ?_
  obtain ⟨hi, h⟩ := h
  refine aw_sld dL_law_1366 hi ?_
  refine aw_aload_n (j := 0) dL_law_1367 rfl rfl ?_
  refine aw_iload (j := 4) dL_law_1368 rfl ?_
  refine aw_iconst (v := 2) dL_law_1370 (by decide) ?_
  refine aw_iadd dL_law_1371 ?_
  obtain ⟨hi, h⟩ := h
  refine aw_sld dL_law_1372 hi ?_
  refine aw_callV (rest := []) [.int (xs (x4 + (1 : Int32)).toNatClampNeg), .int (xs (x4 + (2 : Int32)).toNatClampNeg)] dL_law_1373 ly_0 rfl k_L_183 rfl h (Nat.le_of_ble_eq_true rfl) (fun v m1 h => ?_)
  obtain ⟨v2, rfl, h⟩ := h
  refine aw_eq (L' := [(0, .ref sb), (1, .ref (ad 0)), (2, .ref (ad 187)), (3, .ref (ad 217)), (4, .int x4)]) (st' := [.int v2]) (m' := m1) ?_ rfl rfl rfl
  refine aw_pop dL_law_1376 rfl ?_
  refine aw_aload_n (j := 2) dL_law_1377 rfl rfl ?_
  refine aw_aload_n (j := 0) dL_law_1378 rfl rfl ?_
  refine aw_iload (j := 4) dL_law_1379 rfl ?_
  refine aw_iconst (v := 1) dL_law_1381 (by decide) ?_
  refine aw_iadd dL_law_1382 ?_
  obtain ⟨hi, h⟩ := h
  refine aw_sld dL_law_1383 hi ?_
  refine aw_aload_n (j := 0) dL_law_1384 rfl rfl ?_
  refine aw_iload (j := 4) dL_law_1385 rfl ?_
  refine aw_iconst (v := 2) dL_law_1387 (by decide) ?_
  refine aw_iadd dL_law_1388 ?_
  obtain ⟨hi, h⟩ := h
  refine aw_sld dL_law_1389 hi ?_
  refine aw_callV (rest := []) [.int (xs (x4 + (1 : Int32)).toNatClampNeg), .int (xs (x4 + (2 : Int32)).toNatClampNeg)] dL_law_1390 ly_187 rfl k_L_186 rfl h (Nat.le_of_ble_eq_true rfl) (fun v m3 h => ?_)
  obtain ⟨v4, rfl, h⟩ := h
  refine aw_eq (L' := [(0, .ref sb), (1, .ref (ad 0)), (2, .ref (ad 187)), (3, .ref (ad 217)), (4, .int x4)]) (st' := [.int v4]) (m' := m3) ?_ rfl rfl rfl
  refine aw_pop dL_law_1393 rfl ?_
  refine aw_goto (tgt := 1550) dL_law_1394 (by decide) ?_
  refine aw_iinc (j := 4) (v := x4 + (6 : Int32)) (L' := [(4, .int (x4 + (6 : Int32))), (0, .ref sb), (1, .ref (ad 0)), (2, .ref (ad 187)), (3, .ref (ad 217))]) dL_law_1550 rfl rfl (by decide) rfl ?_
  refine aw_goto (tgt := 23) dL_law_1553 (by decide) ?_
  exact aw_drop (Nat.le_succ _) (Nat.le_add_right _ _) (aw_sub [1, 2, 3, 4, 0] rfl h)
set_option maxRecDepth 100000 in
set_option maxHeartbeats 4000000 in
theorem g_L_law_1397 {ad : Nat → Nat} {sb Ls kc ks : Nat} {xs : Nat → Int32} {d : Nat} {Q : Option Value → Wm → Prop} {m : Wm} {x4 : Int32} (h : (vp_in (x4 + (1 : Int32)) Ls ∧ (Ct ad μX11_laws d [.ref (ad 0), .int (xs (x4 + (1 : Int32)).toNatClampNeg)] m (fun r m1 => ∃ v2 : Int32, r = some (.int v2) ∧ (vp_in (x4 + (1 : Int32)) Ls ∧ (Ct ad μX12_laws d [.ref (ad 187), .int (xs (x4 + (1 : Int32)).toNatClampNeg)] m1 (fun r m3 => ∃ v4 : Int32, r = some (.int v4) ∧ AWl LAY ad (EX (SX sb Ls xs) kc ks LAY) μL_law (d + 1) Q 23 [(0, .ref sb), (1, .ref (ad 0)), (2, .ref (ad 187)), (3, .ref (ad 217)), (4, .int (x4 + (6 : Int32)))] [] m3))))))) : AWl LAY ad (EX (SX sb Ls xs) (kc + 1) (ks + 6) LAY) μL_law (d + 1) Q 1397 [(0, .ref sb), (1, .ref (ad 0)), (2, .ref (ad 187)), (3, .ref (ad 217)), (4, .int x4)] [] m := by
  refine aw_aload_n (j := 1) dL_law_1397 rfl rfl ?_
  refine aw_aload_n (j := 0) dL_law_1398 rfl rfl ?_
  refine aw_iload (j := 4) dL_law_1399 rfl ?_
  refine aw_iconst (v := 1) dL_law_1401 (by decide) ?_
  refine aw_iadd dL_law_1402 ?_
  obtain ⟨hi, h⟩ := h
  refine aw_sld dL_law_1403 hi ?_
  refine aw_callV (rest := []) [.int (xs (x4 + (1 : Int32)).toNatClampNeg)] dL_law_1404 ly_0 rfl k_L_187 rfl h (Nat.le_of_ble_eq_true rfl) (fun v m1 h => ?_)
  obtain ⟨v2, rfl, h⟩ := h
  refine aw_eq (L' := [(0, .ref sb), (1, .ref (ad 0)), (2, .ref (ad 187)), (3, .ref (ad 217)), (4, .int x4)]) (st' := [.int v2]) (m' := m1) ?_ rfl rfl rfl
  refine aw_pop dL_law_1407 rfl ?_
  refine aw_aload_n (j := 2) dL_law_1408 rfl rfl ?_
  refine aw_aload_n (j := 0) dL_law_1409 rfl rfl ?_
  refine aw_iload (j := 4) dL_law_1410 rfl ?_
  refine aw_iconst (v := 1) dL_law_1412 (by decide) ?_
  refine aw_iadd dL_law_1413 ?_
  obtain ⟨hi, h⟩ := h
  refine aw_sld dL_law_1414 hi ?_
  refine aw_callV (rest := []) [.int (xs (x4 + (1 : Int32)).toNatClampNeg)] dL_law_1415 ly_187 rfl k_L_190 rfl h (Nat.le_of_ble_eq_true rfl) (fun v m3 h => ?_)
  obtain ⟨v4, rfl, h⟩ := h
  refine aw_eq (L' := [(0, .ref sb), (1, .ref (ad 0)), (2, .ref (ad 187)), (3, .ref (ad 217)), (4, .int x4)]) (st' := [.int v4]) (m' := m3) ?_ rfl rfl rfl
  refine aw_pop dL_law_1418 rfl ?_
  refine aw_goto (tgt := 1550) dL_law_1419 (by decide) ?_
  refine aw_iinc (j := 4) (v := x4 + (6 : Int32)) (L' := [(4, .int (x4 + (6 : Int32))), (0, .ref sb), (1, .ref (ad 0)), (2, .ref (ad 187)), (3, .ref (ad 217))]) dL_law_1550 rfl rfl (by decide) rfl ?_
  refine aw_goto (tgt := 23) dL_law_1553 (by decide) ?_
  exact aw_drop (Nat.le_succ _) (Nat.le_add_right _ _) (aw_sub [1, 2, 3, 4, 0] rfl h)
set_option maxRecDepth 100000 in
set_option maxHeartbeats 4000000 in
theorem g_L_law_1422 {ad : Nat → Nat} {sb Ls kc ks : Nat} {xs : Nat → Int32} {d : Nat} {Q : Option Value → Wm → Prop} {m : Wm} {x4 : Int32} (h : (vp_in (x4 + (1 : Int32)) Ls ∧ (Ct ad μX11_seed d [.ref (ad 0), .int (xs (x4 + (1 : Int32)).toNatClampNeg)] m (fun r m1 => ∃ v2 : Int32, r = some (.int v2) ∧ (vp_in (x4 + (1 : Int32)) Ls ∧ (Ct ad μX12_seed d [.ref (ad 187), .int (xs (x4 + (1 : Int32)).toNatClampNeg)] m1 (fun r m3 => ∃ v4 : Int32, r = some (.int v4) ∧ AWl LAY ad (EX (SX sb Ls xs) kc ks LAY) μL_law (d + 1) Q 23 [(0, .ref sb), (1, .ref (ad 0)), (2, .ref (ad 187)), (3, .ref (ad 217)), (4, .int (x4 + (6 : Int32)))] [] m3))))))) : AWl LAY ad (EX (SX sb Ls xs) (kc + 1) (ks + 6) LAY) μL_law (d + 1) Q 1422 [(0, .ref sb), (1, .ref (ad 0)), (2, .ref (ad 187)), (3, .ref (ad 217)), (4, .int x4)] [] m := by
  refine aw_aload_n (j := 1) dL_law_1422 rfl rfl ?_
  refine aw_aload_n (j := 0) dL_law_1423 rfl rfl ?_
  refine aw_iload (j := 4) dL_law_1424 rfl ?_
  refine aw_iconst (v := 1) dL_law_1426 (by decide) ?_
  refine aw_iadd dL_law_1427 ?_
  obtain ⟨hi, h⟩ := h
  refine aw_sld dL_law_1428 hi ?_
  refine aw_callV (rest := []) [.int (xs (x4 + (1 : Int32)).toNatClampNeg)] dL_law_1429 ly_0 rfl k_L_191 rfl h (Nat.le_of_ble_eq_true rfl) (fun v m1 h => ?_)
  obtain ⟨v2, rfl, h⟩ := h
  refine aw_eq (L' := [(0, .ref sb), (1, .ref (ad 0)), (2, .ref (ad 187)), (3, .ref (ad 217)), (4, .int x4)]) (st' := [.int v2]) (m' := m1) ?_ rfl rfl rfl
  refine aw_pop dL_law_1432 rfl ?_
  refine aw_aload_n (j := 2) dL_law_1433 rfl rfl ?_
  refine aw_aload_n (j := 0) dL_law_1434 rfl rfl ?_
  refine aw_iload (j := 4) dL_law_1435 rfl ?_
  refine aw_iconst (v := 1) dL_law_1437 (by decide) ?_
  refine aw_iadd dL_law_1438 ?_
  obtain ⟨hi, h⟩ := h
  refine aw_sld dL_law_1439 hi ?_
  refine aw_callV (rest := []) [.int (xs (x4 + (1 : Int32)).toNatClampNeg)] dL_law_1440 ly_187 rfl k_L_194 rfl h (Nat.le_of_ble_eq_true rfl) (fun v m3 h => ?_)
  obtain ⟨v4, rfl, h⟩ := h
  refine aw_eq (L' := [(0, .ref sb), (1, .ref (ad 0)), (2, .ref (ad 187)), (3, .ref (ad 217)), (4, .int x4)]) (st' := [.int v4]) (m' := m3) ?_ rfl rfl rfl
  refine aw_pop dL_law_1443 rfl ?_
  refine aw_goto (tgt := 1550) dL_law_1444 (by decide) ?_
  refine aw_iinc (j := 4) (v := x4 + (6 : Int32)) (L' := [(4, .int (x4 + (6 : Int32))), (0, .ref sb), (1, .ref (ad 0)), (2, .ref (ad 187)), (3, .ref (ad 217))]) dL_law_1550 rfl rfl (by decide) rfl ?_
  refine aw_goto (tgt := 23) dL_law_1553 (by decide) ?_
  exact aw_drop (Nat.le_succ _) (Nat.le_add_right _ _) (aw_sub [1, 2, 3, 4, 0] rfl h)
set_option maxRecDepth 100000 in
set_option maxHeartbeats 4000000 in
theorem g_L_law_1447 {ad : Nat → Nat} {sb Ls kc ks : Nat} {xs : Nat → Int32} {d : Nat} {Q : Option Value → Wm → Prop} {m : Wm} {x4 : Int32} (h : (vp_in (x4 + (1 : Int32)) Ls ∧ (Ct ad μX11_keep d [.ref (ad 0), .int (xs (x4 + (1 : Int32)).toNatClampNeg)] m (fun r m1 => ∃ v2 : Int32, r = some (.int v2) ∧ (vp_in (x4 + (1 : Int32)) Ls ∧ (Ct ad μX12_keep d [.ref (ad 187), .int (xs (x4 + (1 : Int32)).toNatClampNeg)] m1 (fun r m3 => ∃ v4 : Int32, r = some (.int v4) ∧ AWl LAY ad (EX (SX sb Ls xs) kc ks LAY) μL_law (d + 1) Q 23 [(0, .ref sb), (1, .ref (ad 0)), (2, .ref (ad 187)), (3, .ref (ad 217)), (4, .int (x4 + (6 : Int32)))] [] m3))))))) : AWl LAY ad (EX (SX sb Ls xs) (kc + 1) (ks + 6) LAY) μL_law (d + 1) Q 1447 [(0, .ref sb), (1, .ref (ad 0)), (2, .ref (ad 187)), (3, .ref (ad 217)), (4, .int x4)] [] m := by
  refine aw_aload_n (j := 1) dL_law_1447 rfl rfl ?_
  refine aw_aload_n (j := 0) dL_law_1448 rfl rfl ?_
  refine aw_iload (j := 4) dL_law_1449 rfl ?_
  refine aw_iconst (v := 1) dL_law_1451 (by decide) ?_
  refine aw_iadd dL_law_1452 ?_
  obtain ⟨hi, h⟩ := h
  refine aw_sld dL_law_1453 hi ?_
  refine aw_callV (rest := []) [.int (xs (x4 + (1 : Int32)).toNatClampNeg)] dL_law_1454 ly_0 rfl k_L_195 rfl h (Nat.le_of_ble_eq_true rfl) (fun v m1 h => ?_)
  obtain ⟨v2, rfl, h⟩ := h
  refine aw_eq (L' := [(0, .ref sb), (1, .ref (ad 0)), (2, .ref (ad 187)), (3, .ref (ad 217)), (4, .int x4)]) (st' := [.int v2]) (m' := m1) ?_ rfl rfl rfl
  refine aw_pop dL_law_1457 rfl ?_
  refine aw_aload_n (j := 2) dL_law_1458 rfl rfl ?_
  refine aw_aload_n (j := 0) dL_law_1459 rfl rfl ?_
  refine aw_iload (j := 4) dL_law_1460 rfl ?_
  refine aw_iconst (v := 1) dL_law_1462 (by decide) ?_
  refine aw_iadd dL_law_1463 ?_
  obtain ⟨hi, h⟩ := h
  refine aw_sld dL_law_1464 hi ?_
  refine aw_callV (rest := []) [.int (xs (x4 + (1 : Int32)).toNatClampNeg)] dL_law_1465 ly_187 rfl k_L_198 rfl h (Nat.le_of_ble_eq_true rfl) (fun v m3 h => ?_)
  obtain ⟨v4, rfl, h⟩ := h
  refine aw_eq (L' := [(0, .ref sb), (1, .ref (ad 0)), (2, .ref (ad 187)), (3, .ref (ad 217)), (4, .int x4)]) (st' := [.int v4]) (m' := m3) ?_ rfl rfl rfl
  refine aw_pop dL_law_1468 rfl ?_
  refine aw_goto (tgt := 1550) dL_law_1469 (by decide) ?_
  refine aw_iinc (j := 4) (v := x4 + (6 : Int32)) (L' := [(4, .int (x4 + (6 : Int32))), (0, .ref sb), (1, .ref (ad 0)), (2, .ref (ad 187)), (3, .ref (ad 217))]) dL_law_1550 rfl rfl (by decide) rfl ?_
  refine aw_goto (tgt := 23) dL_law_1553 (by decide) ?_
  exact aw_drop (Nat.le_succ _) (Nat.le_add_right _ _) (aw_sub [1, 2, 3, 4, 0] rfl h)
set_option maxRecDepth 100000 in
set_option maxHeartbeats 4000000 in
theorem g_L_law_1472 {ad : Nat → Nat} {sb Ls kc ks : Nat} {xs : Nat → Int32} {d : Nat} {Q : Option Value → Wm → Prop} {m : Wm} {x4 : Int32} (h : (vp_in (x4 + (1 : Int32)) Ls ∧ (Ct ad μX11_again d [.ref (ad 0), .int (xs (x4 + (1 : Int32)).toNatClampNeg)] m (fun r m1 => ∃ v2 : Int32, r = some (.int v2) ∧ (vp_in (x4 + (1 : Int32)) Ls ∧ (Ct ad μX12_again d [.ref (ad 187), .int (xs (x4 + (1 : Int32)).toNatClampNeg)] m1 (fun r m3 => ∃ v4 : Int32, r = some (.int v4) ∧ AWl LAY ad (EX (SX sb Ls xs) kc ks LAY) μL_law (d + 1) Q 23 [(0, .ref sb), (1, .ref (ad 0)), (2, .ref (ad 187)), (3, .ref (ad 217)), (4, .int (x4 + (6 : Int32)))] [] m3))))))) : AWl LAY ad (EX (SX sb Ls xs) (kc + 1) (ks + 6) LAY) μL_law (d + 1) Q 1472 [(0, .ref sb), (1, .ref (ad 0)), (2, .ref (ad 187)), (3, .ref (ad 217)), (4, .int x4)] [] m := by
  refine aw_aload_n (j := 1) dL_law_1472 rfl rfl ?_
  refine aw_aload_n (j := 0) dL_law_1473 rfl rfl ?_
  refine aw_iload (j := 4) dL_law_1474 rfl ?_
  refine aw_iconst (v := 1) dL_law_1476 (by decide) ?_
  refine aw_iadd dL_law_1477 ?_
  obtain ⟨hi, h⟩ := h
  refine aw_sld dL_law_1478 hi ?_
  refine aw_callV (rest := []) [.int (xs (x4 + (1 : Int32)).toNatClampNeg)] dL_law_1479 ly_0 rfl k_L_199 rfl h (Nat.le_of_ble_eq_true rfl) (fun v m1 h => ?_)
  obtain ⟨v2, rfl, h⟩ := h
  refine aw_eq (L' := [(0, .ref sb), (1, .ref (ad 0)), (2, .ref (ad 187)), (3, .ref (ad 217)), (4, .int x4)]) (st' := [.int v2]) (m' := m1) ?_ rfl rfl rfl
  refine aw_pop dL_law_1482 rfl ?_
  refine aw_aload_n (j := 2) dL_law_1483 rfl rfl ?_
  refine aw_aload_n (j := 0) dL_law_1484 rfl rfl ?_
  refine aw_iload (j := 4) dL_law_1485 rfl ?_
  refine aw_iconst (v := 1) dL_law_1487 (by decide) ?_
  refine aw_iadd dL_law_1488 ?_
  obtain ⟨hi, h⟩ := h
  refine aw_sld dL_law_1489 hi ?_
  refine aw_callV (rest := []) [.int (xs (x4 + (1 : Int32)).toNatClampNeg)] dL_law_1490 ly_187 rfl k_L_202 rfl h (Nat.le_of_ble_eq_true rfl) (fun v m3 h => ?_)
  obtain ⟨v4, rfl, h⟩ := h
  refine aw_eq (L' := [(0, .ref sb), (1, .ref (ad 0)), (2, .ref (ad 187)), (3, .ref (ad 217)), (4, .int x4)]) (st' := [.int v4]) (m' := m3) ?_ rfl rfl rfl
  refine aw_pop dL_law_1493 rfl ?_
  refine aw_goto (tgt := 1550) dL_law_1494 (by decide) ?_
  refine aw_iinc (j := 4) (v := x4 + (6 : Int32)) (L' := [(4, .int (x4 + (6 : Int32))), (0, .ref sb), (1, .ref (ad 0)), (2, .ref (ad 187)), (3, .ref (ad 217))]) dL_law_1550 rfl rfl (by decide) rfl ?_
  refine aw_goto (tgt := 23) dL_law_1553 (by decide) ?_
  exact aw_drop (Nat.le_succ _) (Nat.le_add_right _ _) (aw_sub [1, 2, 3, 4, 0] rfl h)
set_option maxRecDepth 100000 in
set_option maxHeartbeats 4000000 in
theorem g_L_law_1497 {ad : Nat → Nat} {sb Ls kc ks : Nat} {xs : Nat → Int32} {d : Nat} {Q : Option Value → Wm → Prop} {m : Wm} {x4 : Int32} (h : (vp_in (x4 + (1 : Int32)) Ls ∧ (Ct ad μX11_count d [.ref (ad 0), .int (xs (x4 + (1 : Int32)).toNatClampNeg)] m (fun r m1 => ∃ v2 : Int32, r = some (.int v2) ∧ (vp_in (x4 + (1 : Int32)) Ls ∧ (Ct ad μX12_count d [.ref (ad 187), .int (xs (x4 + (1 : Int32)).toNatClampNeg)] m1 (fun r m3 => ∃ v4 : Int32, r = some (.int v4) ∧ AWl LAY ad (EX (SX sb Ls xs) kc ks LAY) μL_law (d + 1) Q 23 [(0, .ref sb), (1, .ref (ad 0)), (2, .ref (ad 187)), (3, .ref (ad 217)), (4, .int (x4 + (6 : Int32)))] [] m3))))))) : AWl LAY ad (EX (SX sb Ls xs) (kc + 1) (ks + 6) LAY) μL_law (d + 1) Q 1497 [(0, .ref sb), (1, .ref (ad 0)), (2, .ref (ad 187)), (3, .ref (ad 217)), (4, .int x4)] [] m := by
  refine aw_aload_n (j := 1) dL_law_1497 rfl rfl ?_
  refine aw_aload_n (j := 0) dL_law_1498 rfl rfl ?_
  refine aw_iload (j := 4) dL_law_1499 rfl ?_
  refine aw_iconst (v := 1) dL_law_1501 (by decide) ?_
  refine aw_iadd dL_law_1502 ?_
  obtain ⟨hi, h⟩ := h
  refine aw_sld dL_law_1503 hi ?_
  refine aw_callV (rest := []) [.int (xs (x4 + (1 : Int32)).toNatClampNeg)] dL_law_1504 ly_0 rfl k_L_203 rfl h (Nat.le_of_ble_eq_true rfl) (fun v m1 h => ?_)
  obtain ⟨v2, rfl, h⟩ := h
  refine aw_eq (L' := [(0, .ref sb), (1, .ref (ad 0)), (2, .ref (ad 187)), (3, .ref (ad 217)), (4, .int x4)]) (st' := [.int v2]) (m' := m1) ?_ rfl rfl rfl
  refine aw_pop dL_law_1507 rfl ?_
  refine aw_aload_n (j := 2) dL_law_1508 rfl rfl ?_
  refine aw_aload_n (j := 0) dL_law_1509 rfl rfl ?_
  refine aw_iload (j := 4) dL_law_1510 rfl ?_
  refine aw_iconst (v := 1) dL_law_1512 (by decide) ?_
  refine aw_iadd dL_law_1513 ?_
  obtain ⟨hi, h⟩ := h
  refine aw_sld dL_law_1514 hi ?_
  refine aw_callV (rest := []) [.int (xs (x4 + (1 : Int32)).toNatClampNeg)] dL_law_1515 ly_187 rfl k_L_206 rfl h (Nat.le_of_ble_eq_true rfl) (fun v m3 h => ?_)
  obtain ⟨v4, rfl, h⟩ := h
  refine aw_eq (L' := [(0, .ref sb), (1, .ref (ad 0)), (2, .ref (ad 187)), (3, .ref (ad 217)), (4, .int x4)]) (st' := [.int v4]) (m' := m3) ?_ rfl rfl rfl
  refine aw_pop dL_law_1518 rfl ?_
  refine aw_goto (tgt := 1550) dL_law_1519 (by decide) ?_
  refine aw_iinc (j := 4) (v := x4 + (6 : Int32)) (L' := [(4, .int (x4 + (6 : Int32))), (0, .ref sb), (1, .ref (ad 0)), (2, .ref (ad 187)), (3, .ref (ad 217))]) dL_law_1550 rfl rfl (by decide) rfl ?_
  refine aw_goto (tgt := 23) dL_law_1553 (by decide) ?_
  exact aw_drop (Nat.le_succ _) (Nat.le_add_right _ _) (aw_sub [1, 2, 3, 4, 0] rfl h)
set_option maxRecDepth 100000 in
set_option maxHeartbeats 4000000 in
theorem g_L_law_1522 {ad : Nat → Nat} {sb Ls kc ks : Nat} {xs : Nat → Int32} {d : Nat} {Q : Option Value → Wm → Prop} {m : Wm} {x4 : Int32} (h : (vp_in (x4 + (1 : Int32)) Ls ∧ (Ctg ad μL_row hL_row d 1 6 [.ref (ad 0), .int (xs (x4 + (1 : Int32)).toNatClampNeg), .ref (ad 217)] m (fun r m1 => ∃ v2 : Int32, r = some (.int v2) ∧ (vp_in (x4 + (1 : Int32)) Ls ∧ (Ct ad μX12_row d [.ref (ad 187), .int (xs (x4 + (1 : Int32)).toNatClampNeg)] m1 (fun r m3 => ∃ w4 : Int64, r = some (.long w4) ∧ AWl LAY ad (EX (SX sb Ls xs) kc ks LAY) μL_law (d + 1) Q 23 [(0, .ref sb), (1, .ref (ad 0)), (2, .ref (ad 187)), (3, .ref (ad 217)), (4, .int (x4 + (6 : Int32)))] [] m3))))))) : AWl LAY ad (EX (SX sb Ls xs) (kc + 1) (ks + 6) LAY) μL_law (d + 1) Q 1522 [(0, .ref sb), (1, .ref (ad 0)), (2, .ref (ad 187)), (3, .ref (ad 217)), (4, .int x4)] [] m := by
  refine aw_aload_n (j := 1) dL_law_1522 rfl rfl ?_
  refine aw_aload_n (j := 0) dL_law_1523 rfl rfl ?_
  refine aw_iload (j := 4) dL_law_1524 rfl ?_
  refine aw_iconst (v := 1) dL_law_1526 (by decide) ?_
  refine aw_iadd dL_law_1527 ?_
  obtain ⟨hi, h⟩ := h
  refine aw_sld dL_law_1528 hi ?_
  refine aw_aload_n (j := 3) dL_law_1529 rfl rfl ?_
  refine aw_callSg (rest := []) [.ref (ad 0), .int (xs (x4 + (1 : Int32)).toNatClampNeg), .ref (ad 217)] dL_law_1530 k_L_207 rfl h (Nat.le_of_ble_eq_true rfl) (fun v m1 h => ?_)
  obtain ⟨v2, rfl, h⟩ := h
  refine aw_eq (L' := [(0, .ref sb), (1, .ref (ad 0)), (2, .ref (ad 187)), (3, .ref (ad 217)), (4, .int x4)]) (st' := [.int v2]) (m' := m1) ?_ rfl rfl rfl
  refine aw_istore (L' := [(5, .int v2), (0, .ref sb), (1, .ref (ad 0)), (2, .ref (ad 187)), (3, .ref (ad 217)), (4, .int x4)]) dL_law_1533 (by decide) rfl ?_
  refine aw_aload_n (j := 3) dL_law_1535 rfl rfl ?_
  refine aw_aload_n (j := 1) dL_law_1536 rfl rfl ?_
  refine aw_iload (j := 5) dL_law_1537 rfl ?_
  refine aw_iconst (v := 1) dL_law_1539 (by decide) ?_
  refine aw_iadd dL_law_1540 ?_
  obtain ⟨hi, h⟩ := h
  refine aw_sld dL_law_1541 hi ?_
  refine aw_callV (rest := []) [.int (xs (x4 + (1 : Int32)).toNatClampNeg)] dL_law_1542 ly_187 rfl k_L_210 rfl h (Nat.le_of_ble_eq_true rfl) (fun v m3 h => ?_)
  obtain ⟨w4, rfl, h⟩ := h
  refine aw_eq (L' := [(5, .int v2), (0, .ref sb), (1, .ref (ad 0)), (2, .ref (ad 187)), (3, .ref (ad 217)), (4, .int x4)]) (st' := [.long w4]) (m' := m3) ?_ rfl rfl rfl
  refine aw_lstore (L' := [(6, .long w4), (5, .int v2), (0, .ref sb), (1, .ref (ad 0)), (2, .ref (ad 187)), (3, .ref (ad 217)), (4, .int x4)]) dL_law_1545 (by decide) rfl ?_
  refine aw_goto (tgt := 1550) dL_law_1547 (by decide) ?_
  refine aw_iinc (j := 6) (v := x4 + (6 : Int32)) (L' := [(4, .int (x4 + (6 : Int32))), (6, .long w4), (5, .int v2), (0, .ref sb), (1, .ref (ad 0)), (2, .ref (ad 187)), (3, .ref (ad 217))]) dL_law_1550 rfl rfl (by decide) rfl ?_
  refine aw_goto (tgt := 23) dL_law_1553 (by decide) ?_
  exact aw_sub [3, 4, 5, 6, 0] rfl h
