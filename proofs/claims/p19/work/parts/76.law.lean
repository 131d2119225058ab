/-! THE LAW'S OWN: the script, that no cell of the world is -/
def SX (sb Ls : Nat) (xs : Nat → Int32) : Launch → State → (Nat → Prop) → Prop := fun l s A => va_X sb Ls xs s s.heap ∧ sb < s.heap.size ∧ ¬ A sb ∧ l.stackTraces = false ∧ XT s A
abbrev EX (X : Launch → State → (Nat → Prop) → Prop) (kc ks : Nat) (lq : List Ent) : EB := (fun _ l _ _ s _ _ _ _ _ _ _ _ _ A _ => X l s A, kc, ks, lq)
section AWS
variable {lay lq : List Ent} {ad : Nat → Nat} {X : Launch → State → (Nat → Prop) → Prop} {bs n kc ks kc' ks' sb Ls : Nat} {xs : Nat → Int32} {μ : MI} {d : Nat} {Q : Option Value → Wm → Prop} {pc : Nat} {L : List (Nat × Value)} {rest st : List Value} {m : Wm}
theorem aw_sld {i : Int32} (hd : decode μ.2.1 pc = .ok (.iaload, 1)) (hi : vp_in i Ls) (k : AWl lay ad (EX (SX sb Ls xs) kc ks lq) μ d Q (pc + 1) L (.int (xs i.toNatClampNeg) :: rest) m) : AWl lay ad (EX (SX sb Ls xs) kc ks lq) μ d Q pc L (.int i :: .ref sb :: rest) m := fun p l e R s mt args below meth c H locs cs sl G cA A ls Qz C hP hD hS hl => va_sld C.1.1 C.1.2.1 C.2.2.2.1.1.1 C.2.2.2.1.1.2.1 C.2.2.2.1.1.2.2.1 hS hi hd (k p l e R s mt args below meth c H locs cs sl G cA A ls Qz C hP hD hS hl)
theorem aw_slen (hd : decode μ.2.1 pc = .ok (.arraylength, 1)) (k : AWl lay ad (EX (SX sb Ls xs) kc ks lq) μ d Q (pc + 1) L (.int (Int32.ofNat Ls) :: rest) m) : AWl lay ad (EX (SX sb Ls xs) kc ks lq) μ d Q pc L (.ref sb :: rest) m := fun p l e R s mt args below meth c H locs cs sl G cA A ls Qz C hP hD hS hl => va_slen C.1.1 C.1.2.1 C.2.2.2.1.1.1 C.2.2.2.1.1.2.1 C.2.2.2.1.1.2.2.1 hS hd (k p l e R s mt args below meth c H locs cs sl G cA A ls Qz C hP hD hS hl)
/-- less room is asked -/
theorem aw_drop (h1 : kc ≤ kc') (h2 : ks ≤ ks') (k : AWl lay ad (EX X kc ks lq) μ d Q pc L st m) : AWl lay ad (EX X kc' ks' lq) μ d Q pc L st m := by
  intro p l e R s mt args below meth c H locs cs sl G cA A ls Qz C hP hD hS hl
  obtain ⟨hr1, hr2, hr3, hr4⟩ := C.2.2.2.2.1
  have hr3 : cs + kc' ≤ R.cells := hr3
  have hr4 : sl + ks' ≤ R.slots := hr4
  exact k p l e R s mt args below meth c H locs cs sl G cA A ls Qz ⟨C.1, C.2.1, C.2.2.1, C.2.2.2.1, ⟨hr1, hr2, by show cs + kc ≤ R.cells; omega, by show sl + ks ≤ R.slots; omega⟩, C.2.2.2.2.2⟩ hP hD hS hl
/-- the same cells, told by another layout; nothing more is made -/
theorem aw_lay {lay' : List Ent} (h : ∀ cA, cellsOf lay ad cA m = cellsOf lay' ad cA m) (k : AWl lay' ad (EX X kc ks lq) μ d Q pc L st m) : AWl lay ad (EK X bs n kc ks lq) μ d Q pc L st m :=
  fun p l e R s mt args below meth c H locs cs sl G cA A ls Qz C hP hD hS hl => k p l e R s mt args below meth c H locs cs sl G cA A ls Qz ⟨C.1, C.2.1, C.2.2.1, ⟨C.2.2.2.1.1.2, C.2.2.2.1.2⟩, C.2.2.2.2.1, C.2.2.2.2.2⟩ (h cA ▸ hP) (h cA ▸ hD) hS hl
end AWS
/-- a call of the law's own two, that catch -/
def CallSG (own : String) (idx : Nat) (μ' : MI) (hh : List (Nat × Nat × Nat × Nat)) (n : Nat) : Prop := Cond.methodLink own idx μ'.1 ∈ TW ∧ Cond.static μ'.1 ∈ TW ∧ Cond.initialized μ'.1.cls ∈ TW ∧ Cond.codeWith μ'.1 μ'.2.1 μ'.2.2.1 μ'.2.2.2.2 hh ∈ TW ∧ (μ'.1.cls ≠ "java/lang/invoke/MethodHandle" ∧ μ'.1.cls ≠ "java/lang/invoke/VarHandle" ∧ (parseMethodDescriptor μ'.1.desc).map (fun d => d.parameters.length) = some n) ∧ μ'.2.2.1 ≤ 22
theorem aw_callSg {ad : Nat → Nat} {kc ks sb Ls : Nat} {xs : Nat → Int32} {μ : MI} {d : Nat} {Q : Option Value → Wm → Prop} {pc : Nat} {L : List (Nat × Value)} {rest st : List Value} {m : Wm} {idx : Nat} {μ' : MI} {hh : List (Nat × Nat × Nat × Nat)} (As : List Value) {Q' : Option Value → Wm → Prop} (hd : decode μ.2.1 pc = .ok (.invokestatic idx, 3)) (cw : CallSG μ.2.2.2.1 idx μ' hh As.length) (hst : st = As.reverse ++ rest) (hM : Ctg ad μ' hh d 1 6 As m Q') (hW : (rest.map fun v => v.category).sum ≤ 8)
    (k : ∀ v m', Q' v m' → AWl LAY ad (EX (SX sb Ls xs) kc ks LAY) μ (d + 1) Q (pc + 3) L (v.toList ++ rest) m') : AWl LAY ad (EX (SX sb Ls xs) (kc + 1) (ks + 6) LAY) μ (d + 1) Q pc L st m := by
  subst hst
  intro p l e R s mt args below meth c H locs cs sl G cA A ls Qz C hP hD hS hl
  obtain ⟨w1, w2, w4, w5, w6, w7⟩ := cw
  have hts := C.1.2.2.2.2
  obtain ⟨hr1, hr2, hr3, hr4⟩ := C.2.2.2.2.1
  have hr3 : cs + (kc + 1) ≤ R.cells := hr3
  have hr4 : sl + (ks + 6) ≤ R.slots := hr4
  obtain ⟨⟨hx1, hx2, hx3, hl0, hX⟩, hnm, hnw⟩ := C.2.2.2.1
  have hA := C.2.2.1
  have hAA : ∀ q, va_A (cellsOf LAY ad cA m) H.size q → A q := by
    intro q hq
    rcases hq with ⟨k, x, hq⟩ | hq
    · exact hD.2 k (q, x) hq
    · exact hA q (Nat.le_trans hS.1 hq)
  have hr := vx_runSW (e := e) (below := below) (meth := meth) (locs := locs) (cells := cs) (slots := sl) (g := F0 mt pc ls (As.reverse ++ rest)) (As := As) (rest := rest) (n := As.length) (hh := hh) C.1 (hM l G cA H.size hl0) ⟨⟨rfl, rfl, hr1, by show 8 + (μ'.2.2.1 + 11) + 41 * d ≤ R.locals; omega, pay_in hts (good_tbl w5), List.mem_cons_self⟩, hts _ w5, hts _ w4, ⟨w6.1, w6.2.1⟩, fun sig h => by have h2 := w6.2.2; rw [h] at h2; exact (Option.some.inj h2).symm, hts _ w1, hts _ w2⟩ ⟨fun a U g mk q => ⟨q.1, PCt.blind a U g mk ⟨q.1, q.2.1⟩ |>.2, XW_same (s := U) (U := U.calling g mk a) rfl q.2.2.1, vx_Zq.moved (u := U) (U := U.calling g mk a) (Vm.Alike.refl U.vm) q.2.2.2.1, vx_Zq.moved (u := U) (U := U.calling g mk a) (Vm.Alike.refl U.vm) q.2.2.2.2⟩, fun U hU hW' => ⟨rfl, ⟨by rw [hU], by rw [hU]; exact hP, va_K.moved hW'.alike C.2.1, hD.weaken (fun _ _ _ _ => trivial), NWs.warm hW' hnw⟩, hX.go hW' hS hU hAA⟩⟩ rfl rfl hl.1 rfl (lv_room hW) hd ⟨by omega, by omega⟩
  intro T0 hT0 X0'
  obtain ⟨v, st₀, t, T', L', h0, X', hL, e1, e2, ⟨⟨v', m', hv, hq, hp⟩, hF⟩, st⟩ := hr T0 hT0 X0'
  cases hv
  obtain ⟨k1, k2, k3⟩ := vx_keep h0 e1 hS (fun q _ h => hAA q h) hAA hL hF
  obtain ⟨t2, a1, b1⟩ := k v m' hq p l e R s mt args below meth c T'.heap (locs ++ L') (cs + 1) (sl + 6) G cA A ls Qz ⟨C.1, C.2.1, C.2.2.1, ⟨⟨hx1, hx2, hx3, hl0, hX⟩, hnm, hnw⟩, ⟨hr1, hr2, by show cs + 1 + kc ≤ R.cells; omega, by show sl + 6 + ks ≤ R.slots; omega⟩, C.2.2.2.2.2⟩ (by rw [e1]; exact hp) (cells_D hD) k3 hl T' rfl X'
  exact ⟨t2, st t2 a1, b1⟩
theorem wx_50 : Cond.codeWith yL_of cL_of 5 (some .int) hL_of ∈ TW := tw (List.mem_of_getElem? (i := 1180) (by decide +kernel)) (by decide +kernel)
theorem wx_207 : Cond.codeWith yL_row cL_row 4 (some .int) hL_row ∈ TW := tw (List.mem_of_getElem? (i := 1250) (by decide +kernel)) (by decide +kernel)
theorem wx_51 : Cond.methodLink RL 50 yL_of ∈ TW := tw (by decide +kernel) (by decide +kernel)
theorem wx_52 : Cond.static yL_of ∈ TW := tw (by decide +kernel) (by decide +kernel)
theorem wx_53 : Cond.initialized RL ∈ TW := tw (by decide +kernel) (by decide +kernel)
theorem wx_208 : Cond.methodLink RL 204 yL_row ∈ TW := tw (by decide +kernel) (by decide +kernel)
theorem wx_209 : Cond.static yL_row ∈ TW := tw (by decide +kernel) (by decide +kernel)
theorem k_L_50 : CallSG RL 50 μL_of hL_of 4 := ⟨wx_51, wx_52, wx_53, wx_50, ⟨by decide, by decide, by decide +kernel⟩, by decide⟩
theorem k_L_204 : CallSG RL 204 μL_row hL_row 3 := ⟨wx_208, wx_209, wx_53, wx_207, ⟨by decide, by decide, by decide +kernel⟩, by decide⟩
abbrev μL_law : MI := (yL_law, cL_law, 8, RL, some .boolean)
set_option maxRecDepth 100000 in
set_option maxHeartbeats 4000000 in
theorem g_L_law_23 {ad : Nat → Nat} {sb Ls kc ks : Nat} {xs : Nat → Int32} {d : Nat} {Q : Option Value → Wm → Prop} {m : Wm} {x4 : Int32} (h : ((((Int32.ofNat Ls) - (6 : Int32)) < x4 → Q (some (.int (1 : Int32))) m) ∧ (¬ ((Int32.ofNat Ls) - (6 : Int32)) < x4 → (vp_in x4 Ls ∧ ((((xs x4.toNatClampNeg) &&& (63 : Int32)) = 0 → AWl LAY ad (EX (SX sb Ls xs) (kc + 1) (ks + 6) LAY) μL_law (d + 1) Q 232 [(0, .ref sb), (1, .ref (ad 0)), (2, .ref (ad 187)), (3, .ref (ad 217)), (4, .int x4)] [] m) ∧ (((xs x4.toNatClampNeg) &&& (63 : Int32)) = 1 → AWl LAY ad (EX (SX sb Ls xs) (kc + 1) (ks + 6) LAY) μL_law (d + 1) Q 257 [(0, .ref sb), (1, .ref (ad 0)), (2, .ref (ad 187)), (3, .ref (ad 217)), (4, .int x4)] [] m) ∧ (((xs x4.toNatClampNeg) &&& (63 : Int32)) = 2 → AWl LAY ad (EX (SX sb Ls xs) (kc + 1) (ks + 6) LAY) μL_law (d + 1) Q 282 [(0, .ref sb), (1, .ref (ad 0)), (2, .ref (ad 187)), (3, .ref (ad 217)), (4, .int x4)] [] m) ∧ (((xs x4.toNatClampNeg) &&& (63 : Int32)) = 3 → AWl LAY ad (EX (SX sb Ls xs) (kc + 1) (ks + 6) LAY) μL_law (d + 1) Q 295 [(0, .ref sb), (1, .ref (ad 0)), (2, .ref (ad 187)), (3, .ref (ad 217)), (4, .int x4)] [] m) ∧ (((xs x4.toNatClampNeg) &&& (63 : Int32)) = 4 → AWl LAY ad (EX (SX sb Ls xs) (kc + 1) (ks + 6) LAY) μL_law (d + 1) Q 308 [(0, .ref sb), (1, .ref (ad 0)), (2, .ref (ad 187)), (3, .ref (ad 217)), (4, .int x4)] [] m) ∧ (((xs x4.toNatClampNeg) &&& (63 : Int32)) = 5 → AWl LAY ad (EX (SX sb Ls xs) (kc + 1) (ks + 6) LAY) μL_law (d + 1) Q 321 [(0, .ref sb), (1, .ref (ad 0)), (2, .ref (ad 187)), (3, .ref (ad 217)), (4, .int x4)] [] m) ∧ (((xs x4.toNatClampNeg) &&& (63 : Int32)) = 6 → AWl LAY ad (EX (SX sb Ls xs) (kc + 1) (ks + 6) LAY) μL_law (d + 1) Q 358 [(0, .ref sb), (1, .ref (ad 0)), (2, .ref (ad 187)), (3, .ref (ad 217)), (4, .int x4)] [] m) ∧ (((xs x4.toNatClampNeg) &&& (63 : Int32)) = 7 → AWl LAY ad (EX (SX sb Ls xs) (kc + 1) (ks + 6) LAY) μL_law (d + 1) Q 398 [(0, .ref sb), (1, .ref (ad 0)), (2, .ref (ad 187)), (3, .ref (ad 217)), (4, .int x4)] [] m) ∧ (((xs x4.toNatClampNeg) &&& (63 : Int32)) = 8 → AWl LAY ad (EX (SX sb Ls xs) (kc + 1) (ks + 6) LAY) μL_law (d + 1) Q 435 [(0, .ref sb), (1, .ref (ad 0)), (2, .ref (ad 187)), (3, .ref (ad 217)), (4, .int x4)] [] m) ∧ (((xs x4.toNatClampNeg) &&& (63 : Int32)) = 9 → AWl LAY ad (EX (SX sb Ls xs) (kc + 1) (ks + 6) LAY) μL_law (d + 1) Q 508 [(0, .ref sb), (1, .ref (ad 0)), (2, .ref (ad 187)), (3, .ref (ad 217)), (4, .int x4)] [] m) ∧ (((xs x4.toNatClampNeg) &&& (63 : Int32)) = 10 → AWl LAY ad (EX (SX sb Ls xs) (kc + 1) (ks + 6) LAY) μL_law (d + 1) Q 561 [(0, .ref sb), (1, .ref (ad 0)), (2, .ref (ad 187)), (3, .ref (ad 217)), (4, .int x4)] [] m) ∧ (((xs x4.toNatClampNeg) &&& (63 : Int32)) = 11 → AWl LAY ad (EX (SX sb Ls xs) (kc + 1) (ks + 6) LAY) μL_law (d + 1) Q 598 [(0, .ref sb), (1, .ref (ad 0)), (2, .ref (ad 187)), (3, .ref (ad 217)), (4, .int x4)] [] m) ∧ (((xs x4.toNatClampNeg) &&& (63 : Int32)) = 12 → AWl LAY ad (EX (SX sb Ls xs) (kc + 1) (ks + 6) LAY) μL_law (d + 1) Q 611 [(0, .ref sb), (1, .ref (ad 0)), (2, .ref (ad 187)), (3, .ref (ad 217)), (4, .int x4)] [] m) ∧ (((xs x4.toNatClampNeg) &&& (63 : Int32)) = 13 → AWl LAY ad (EX (SX sb Ls xs) (kc + 1) (ks + 6) LAY) μL_law (d + 1) Q 660 [(0, .ref sb), (1, .ref (ad 0)), (2, .ref (ad 187)), (3, .ref (ad 217)), (4, .int x4)] [] m) ∧ (((xs x4.toNatClampNeg) &&& (63 : Int32)) = 14 → AWl LAY ad (EX (SX sb Ls xs) (kc + 1) (ks + 6) LAY) μL_law (d + 1) Q 697 [(0, .ref sb), (1, .ref (ad 0)), (2, .ref (ad 187)), (3, .ref (ad 217)), (4, .int x4)] [] m) ∧ (((xs x4.toNatClampNeg) &&& (63 : Int32)) = 15 → AWl LAY ad (EX (SX sb Ls xs) (kc + 1) (ks + 6) LAY) μL_law (d + 1) Q 746 [(0, .ref sb), (1, .ref (ad 0)), (2, .ref (ad 187)), (3, .ref (ad 217)), (4, .int x4)] [] m) ∧ (((xs x4.toNatClampNeg) &&& (63 : Int32)) = 16 → AWl LAY ad (EX (SX sb Ls xs) (kc + 1) (ks + 6) LAY) μL_law (d + 1) Q 759 [(0, .ref sb), (1, .ref (ad 0)), (2, .ref (ad 187)), (3, .ref (ad 217)), (4, .int x4)] [] m) ∧ (((xs x4.toNatClampNeg) &&& (63 : Int32)) = 17 → AWl LAY ad (EX (SX sb Ls xs) (kc + 1) (ks + 6) LAY) μL_law (d + 1) Q 796 [(0, .ref sb), (1, .ref (ad 0)), (2, .ref (ad 187)), (3, .ref (ad 217)), (4, .int x4)] [] m) ∧ (((xs x4.toNatClampNeg) &&& (63 : Int32)) = 18 → AWl LAY ad (EX (SX sb Ls xs) (kc + 1) (ks + 6) LAY) μL_law (d + 1) Q 821 [(0, .ref sb), (1, .ref (ad 0)), (2, .ref (ad 187)), (3, .ref (ad 217)), (4, .int x4)] [] m) ∧ (((xs x4.toNatClampNeg) &&& (63 : Int32)) = 19 → AWl LAY ad (EX (SX sb Ls xs) (kc + 1) (ks + 6) LAY) μL_law (d + 1) Q 846 [(0, .ref sb), (1, .ref (ad 0)), (2, .ref (ad 187)), (3, .ref (ad 217)), (4, .int x4)] [] m) ∧ (((xs x4.toNatClampNeg) &&& (63 : Int32)) = 20 → AWl LAY ad (EX (SX sb Ls xs) (kc + 1) (ks + 6) LAY) μL_law (d + 1) Q 859 [(0, .ref sb), (1, .ref (ad 0)), (2, .ref (ad 187)), (3, .ref (ad 217)), (4, .int x4)] [] m) ∧ (((xs x4.toNatClampNeg) &&& (63 : Int32)) = 21 → AWl LAY ad (EX (SX sb Ls xs) (kc + 1) (ks + 6) LAY) μL_law (d + 1) Q 884 [(0, .ref sb), (1, .ref (ad 0)), (2, .ref (ad 187)), (3, .ref (ad 217)), (4, .int x4)] [] m) ∧ (((xs x4.toNatClampNeg) &&& (63 : Int32)) = 22 → AWl LAY ad (EX (SX sb Ls xs) (kc + 1) (ks + 6) LAY) μL_law (d + 1) Q 897 [(0, .ref sb), (1, .ref (ad 0)), (2, .ref (ad 187)), (3, .ref (ad 217)), (4, .int x4)] [] m) ∧ (((xs x4.toNatClampNeg) &&& (63 : Int32)) = 23 → AWl LAY ad (EX (SX sb Ls xs) (kc + 1) (ks + 6) LAY) μL_law (d + 1) Q 910 [(0, .ref sb), (1, .ref (ad 0)), (2, .ref (ad 187)), (3, .ref (ad 217)), (4, .int x4)] [] m) ∧ (((xs x4.toNatClampNeg) &&& (63 : Int32)) = 24 → AWl LAY ad (EX (SX sb Ls xs) (kc + 1) (ks + 6) LAY) μL_law (d + 1) Q 923 [(0, .ref sb), (1, .ref (ad 0)), (2, .ref (ad 187)), (3, .ref (ad 217)), (4, .int x4)] [] m) ∧ (((xs x4.toNatClampNeg) &&& (63 : Int32)) = 25 → AWl LAY ad (EX (SX sb Ls xs) (kc + 1) (ks + 6) LAY) μL_law (d + 1) Q 960 [(0, .ref sb), (1, .ref (ad 0)), (2, .ref (ad 187)), (3, .ref (ad 217)), (4, .int x4)] [] m) ∧ (((xs x4.toNatClampNeg) &&& (63 : Int32)) = 26 → AWl LAY ad (EX (SX sb Ls xs) (kc + 1) (ks + 6) LAY) μL_law (d + 1) Q 1009 [(0, .ref sb), (1, .ref (ad 0)), (2, .ref (ad 187)), (3, .ref (ad 217)), (4, .int x4)] [] m) ∧ (((xs x4.toNatClampNeg) &&& (63 : Int32)) = 27 → AWl LAY ad (EX (SX sb Ls xs) (kc + 1) (ks + 6) LAY) μL_law (d + 1) Q 1058 [(0, .ref sb), (1, .ref (ad 0)), (2, .ref (ad 187)), (3, .ref (ad 217)), (4, .int x4)] [] m) ∧ (((xs x4.toNatClampNeg) &&& (63 : Int32)) = 28 → AWl LAY ad (EX (SX sb Ls xs) (kc + 1) (ks + 6) LAY) μL_law (d + 1) Q 1083 [(0, .ref sb), (1, .ref (ad 0)), (2, .ref (ad 187)), (3, .ref (ad 217)), (4, .int x4)] [] m) ∧ (((xs x4.toNatClampNeg) &&& (63 : Int32)) = 29 → AWl LAY ad (EX (SX sb Ls xs) (kc + 1) (ks + 6) LAY) μL_law (d + 1) Q 1132 [(0, .ref sb), (1, .ref (ad 0)), (2, .ref (ad 187)), (3, .ref (ad 217)), (4, .int x4)] [] m) ∧ (((xs x4.toNatClampNeg) &&& (63 : Int32)) = 30 → AWl LAY ad (EX (SX sb Ls xs) (kc + 1) (ks + 6) LAY) μL_law (d + 1) Q 1157 [(0, .ref sb), (1, .ref (ad 0)), (2, .ref (ad 187)), (3, .ref (ad 217)), (4, .int x4)] [] m) ∧ (((xs x4.toNatClampNeg) &&& (63 : Int32)) = 31 → AWl LAY ad (EX (SX sb Ls xs) (kc + 1) (ks + 6) LAY) μL_law (d + 1) Q 1194 [(0, .ref sb), (1, .ref (ad 0)), (2, .ref (ad 187)), (3, .ref (ad 217)), (4, .int x4)] [] m) ∧ (((xs x4.toNatClampNeg) &&& (63 : Int32)) = 32 → AWl LAY ad (EX (SX sb Ls xs) (kc + 1) (ks + 6) LAY) μL_law (d + 1) Q 1219 [(0, .ref sb), (1, .ref (ad 0)), (2, .ref (ad 187)), (3, .ref (ad 217)), (4, .int x4)] [] m) ∧ (((xs x4.toNatClampNeg) &&& (63 : Int32)) = 33 → AWl LAY ad (EX (SX sb Ls xs) (kc + 1) (ks + 6) LAY) μL_law (d + 1) Q 1232 [(0, .ref sb), (1, .ref (ad 0)), (2, .ref (ad 187)), (3, .ref (ad 217)), (4, .int x4)] [] m) ∧ (((xs x4.toNatClampNeg) &&& (63 : Int32)) = 34 → AWl LAY ad (EX (SX sb Ls xs) (kc + 1) (ks + 6) LAY) μL_law (d + 1) Q 1257 [(0, .ref sb), (1, .ref (ad 0)), (2, .ref (ad 187)), (3, .ref (ad 217)), (4, .int x4)] [] m) ∧ (((xs x4.toNatClampNeg) &&& (63 : Int32)) = 35 → AWl LAY ad (EX (SX sb Ls xs) (kc + 1) (ks + 6) LAY) μL_law (d + 1) Q 1306 [(0, .ref sb), (1, .ref (ad 0)), (2, .ref (ad 187)), (3, .ref (ad 217)), (4, .int x4)] [] m) ∧ (((xs x4.toNatClampNeg) &&& (63 : Int32)) = 36 → AWl LAY ad (EX (SX sb Ls xs) (kc + 1) (ks + 6) LAY) μL_law (d + 1) Q 1319 [(0, .ref sb), (1, .ref (ad 0)), (2, .ref (ad 187)), (3, .ref (ad 217)), (4, .int x4)] [] m) ∧ (((xs x4.toNatClampNeg) &&& (63 : Int32)) = 37 → AWl LAY ad (EX (SX sb Ls xs) (kc + 1) (ks + 6) LAY) μL_law (d + 1) Q 1332 [(0, .ref sb), (1, .ref (ad 0)), (2, .ref (ad 187)), (3, .ref (ad 217)), (4, .int x4)] [] m) ∧ (((xs x4.toNatClampNeg) &&& (63 : Int32)) = 38 → AWl LAY ad (EX (SX sb Ls xs) (kc + 1) (ks + 6) LAY) μL_law (d + 1) Q 1369 [(0, .ref sb), (1, .ref (ad 0)), (2, .ref (ad 187)), (3, .ref (ad 217)), (4, .int x4)] [] m) ∧ (((xs x4.toNatClampNeg) &&& (63 : Int32)) = 39 → AWl LAY ad (EX (SX sb Ls xs) (kc + 1) (ks + 6) LAY) μL_law (d + 1) Q 1394 [(0, .ref sb), (1, .ref (ad 0)), (2, .ref (ad 187)), (3, .ref (ad 217)), (4, .int x4)] [] m) ∧ (((xs x4.toNatClampNeg) &&& (63 : Int32)) = 40 → AWl LAY ad (EX (SX sb Ls xs) (kc + 1) (ks + 6) LAY) μL_law (d + 1) Q 1419 [(0, .ref sb), (1, .ref (ad 0)), (2, .ref (ad 187)), (3, .ref (ad 217)), (4, .int x4)] [] m) ∧ (((xs x4.toNatClampNeg) &&& (63 : Int32)) = 41 → AWl LAY ad (EX (SX sb Ls xs) (kc + 1) (ks + 6) LAY) μL_law (d + 1) Q 1444 [(0, .ref sb), (1, .ref (ad 0)), (2, .ref (ad 187)), (3, .ref (ad 217)), (4, .int x4)] [] m) ∧ (((xs x4.toNatClampNeg) &&& (63 : Int32)) = 42 → AWl LAY ad (EX (SX sb Ls xs) (kc + 1) (ks + 6) LAY) μL_law (d + 1) Q 1469 [(0, .ref sb), (1, .ref (ad 0)), (2, .ref (ad 187)), (3, .ref (ad 217)), (4, .int x4)] [] m) ∧ (((xs x4.toNatClampNeg) &&& (63 : Int32)) = 43 → AWl LAY ad (EX (SX sb Ls xs) (kc + 1) (ks + 6) LAY) μL_law (d + 1) Q 1494 [(0, .ref sb), (1, .ref (ad 0)), (2, .ref (ad 187)), (3, .ref (ad 217)), (4, .int x4)] [] m) ∧ (¬ ((xs x4.toNatClampNeg) &&& (63 : Int32)) = 0 → ¬ ((xs x4.toNatClampNeg) &&& (63 : Int32)) = 1 → ¬ ((xs x4.toNatClampNeg) &&& (63 : Int32)) = 2 → ¬ ((xs x4.toNatClampNeg) &&& (63 : Int32)) = 3 → ¬ ((xs x4.toNatClampNeg) &&& (63 : Int32)) = 4 → ¬ ((xs x4.toNatClampNeg) &&& (63 : Int32)) = 5 → ¬ ((xs x4.toNatClampNeg) &&& (63 : Int32)) = 6 → ¬ ((xs x4.toNatClampNeg) &&& (63 : Int32)) = 7 → ¬ ((xs x4.toNatClampNeg) &&& (63 : Int32)) = 8 → ¬ ((xs x4.toNatClampNeg) &&& (63 : Int32)) = 9 → ¬ ((xs x4.toNatClampNeg) &&& (63 : Int32)) = 10 → ¬ ((xs x4.toNatClampNeg) &&& (63 : Int32)) = 11 → ¬ ((xs x4.toNatClampNeg) &&& (63 : Int32)) = 12 → ¬ ((xs x4.toNatClampNeg) &&& (63 : Int32)) = 13 → ¬ ((xs x4.toNatClampNeg) &&& (63 : Int32)) = 14 → ¬ ((xs x4.toNatClampNeg) &&& (63 : Int32)) = 15 → ¬ ((xs x4.toNatClampNeg) &&& (63 : Int32)) = 16 → ¬ ((xs x4.toNatClampNeg) &&& (63 : Int32)) = 17 → ¬ ((xs x4.toNatClampNeg) &&& (63 : Int32)) = 18 → ¬ ((xs x4.toNatClampNeg) &&& (63 : Int32)) = 19 → ¬ ((xs x4.toNatClampNeg) &&& (63 : Int32)) = 20 → ¬ ((xs x4.toNatClampNeg) &&& (63 : Int32)) = 21 → ¬ ((xs x4.toNatClampNeg) &&& (63 : Int32)) = 22 → ¬ ((xs x4.toNatClampNeg) &&& (63 : Int32)) = 23 → ¬ ((xs x4.toNatClampNeg) &&& (63 : Int32)) = 24 → ¬ ((xs x4.toNatClampNeg) &&& (63 : Int32)) = 25 → ¬ ((xs x4.toNatClampNeg) &&& (63 : Int32)) = 26 → ¬ ((xs x4.toNatClampNeg) &&& (63 : Int32)) = 27 → ¬ ((xs x4.toNatClampNeg) &&& (63 : Int32)) = 28 → ¬ ((xs x4.toNatClampNeg) &&& (63 : Int32)) = 29 → ¬ ((xs x4.toNatClampNeg) &&& (63 : Int32)) = 30 → ¬ ((xs x4.toNatClampNeg) &&& (63 : Int32)) = 31 → ¬ ((xs x4.toNatClampNeg) &&& (63 : Int32)) = 32 → ¬ ((xs x4.toNatClampNeg) &&& (63 : Int32)) = 33 → ¬ ((xs x4.toNatClampNeg) &&& (63 : Int32)) = 34 → ¬ ((xs x4.toNatClampNeg) &&& (63 : Int32)) = 35 → ¬ ((xs x4.toNatClampNeg) &&& (63 : Int32)) = 36 → ¬ ((xs x4.toNatClampNeg) &&& (63 : Int32)) = 37 → ¬ ((xs x4.toNatClampNeg) &&& (63 : Int32)) = 38 → ¬ ((xs x4.toNatClampNeg) &&& (63 : Int32)) = 39 → ¬ ((xs x4.toNatClampNeg) &&& (63 : Int32)) = 40 → ¬ ((xs x4.toNatClampNeg) &&& (63 : Int32)) = 41 → ¬ ((xs x4.toNatClampNeg) &&& (63 : Int32)) = 42 → ¬ ((xs x4.toNatClampNeg) &&& (63 : Int32)) = 43 → AWl LAY ad (EX (SX sb Ls xs) kc ks LAY) μL_law (d + 1) Q 23 [(0, .ref sb), (1, .ref (ad 0)), (2, .ref (ad 187)), (3, .ref (ad 217)), (4, .int (x4 + (6 : Int32)))] [] m)))))) : AWl LAY ad (EX (SX sb Ls xs) (kc + 1) (ks + 6) LAY) μL_law (d + 1) Q 23 [(0, .ref sb), (1, .ref (ad 0)), (2, .ref (ad 187)), (3, .ref (ad 217)), (4, .int x4)] [] m := by
  refine aw_iload (j := 4) dL_law_23 rfl ?_
  refine aw_aload_n (j := 0) dL_law_25 rfl rfl ?_
  refine aw_slen dL_law_26 ?_
  refine aw_bipush (v := 6) dL_law_27 (by decide) ?_
  refine aw_isub dL_law_29 ?_
  refine aw_icmp_gt (tgt := 1528) dL_law_30 (by decide) (fun hc => ?_) (fun hc => ?_)
  · have h := h.1 hc
    refine aw_iconst (v := 1) dL_law_1528 (by decide) ?_
    exact aw_ret (v := some (.int (1 : Int32))) rfl (Or.inr (Or.inl ⟨_, .boolean, rfl, rfl, by decide, dL_law_1529⟩)) h
  · have h := h.2 hc
    refine aw_aload_n (j := 0) dL_law_33 rfl rfl ?_
    refine aw_iload (j := 4) dL_law_34 rfl ?_
    obtain ⟨hi, h⟩ := h
    refine aw_sld dL_law_36 hi ?_
    refine aw_bipush (v := 63) dL_law_37 (by decide) ?_
    refine aw_iand dL_law_39 ?_
    by_cases c0 : ((xs x4.toNatClampNeg) &&& (63 : Int32)) = 0
    · have h := h.1 c0
      refine aw_tswIn (tgt := 232) dL_law_40 c0 (by decide) (by decide) (by first | rfl | decide) (by decide) ?_
      exact aw_sub [0, 1, 2, 3, 4] rfl h
    by_cases c1 : ((xs x4.toNatClampNeg) &&& (63 : Int32)) = 1
    · have h := h.2.1 c1
      refine aw_tswIn (tgt := 257) dL_law_40 c1 (by decide) (by decide) (by first | rfl | decide) (by decide) ?_
      exact aw_sub [0, 1, 2, 3, 4] rfl h
    by_cases c2 : ((xs x4.toNatClampNeg) &&& (63 : Int32)) = 2
    · have h := h.2.2.1 c2
      refine aw_tswIn (tgt := 282) dL_law_40 c2 (by decide) (by decide) (by first | rfl | decide) (by decide) ?_
      exact aw_sub [0, 1, 2, 3, 4] rfl h
    by_cases c3 : ((xs x4.toNatClampNeg) &&& (63 : Int32)) = 3
    · have h := h.2.2.2.1 c3
      refine aw_tswIn (tgt := 295) dL_law_40 c3 (by decide) (by decide) (by first | rfl | decide) (by decide) ?_
      exact aw_sub [0, 1, 2, 3, 4] rfl h
    by_cases c4 : ((xs x4.toNatClampNeg) &&& (63 : Int32)) = 4
    · have h := h.2.2.2.2.1 c4
      refine aw_tswIn (tgt := 308) dL_law_40 c4 (by decide) (by decide) (by first | rfl | decide) (by decide) ?_
      exact aw_sub [0, 1, 2, 3, 4] rfl h
    by_cases c5 : ((xs x4.toNatClampNeg) &&& (63 : Int32)) = 5
    · have h := h.2.2.2.2.2.1 c5
      refine aw_tswIn (tgt := 321) dL_law_40 c5 (by decide) (by decide) (by first | rfl | decide) (by decide) ?_
      exact aw_sub [0, 1, 2, 3, 4] rfl h
    by_cases c6 : ((xs x4.toNatClampNeg) &&& (63 : Int32)) = 6
    · have h := h.2.2.2.2.2.2.1 c6
      refine aw_tswIn (tgt := 358) dL_law_40 c6 (by decide) (by decide) (by first | rfl | decide) (by decide) ?_
      exact aw_sub [0, 1, 2, 3, 4] rfl h
    by_cases c7 : ((xs x4.toNatClampNeg) &&& (63 : Int32)) = 7
    · have h := h.2.2.2.2.2.2.2.1 c7
      refine aw_tswIn (tgt := 398) dL_law_40 c7 (by decide) (by decide) (by first | rfl | decide) (by decide) ?_
      exact aw_sub [0, 1, 2, 3, 4] rfl h
    by_cases c8 : ((xs x4.toNatClampNeg) &&& (63 : Int32)) = 8
    · have h := h.2.2.2.2.2.2.2.2.1 c8
      refine aw_tswIn (tgt := 435) dL_law_40 c8 (by decide) (by decide) (by first | rfl | decide) (by decide) ?_
      exact aw_sub [0, 1, 2, 3, 4] rfl h
    by_cases c9 : ((xs x4.toNatClampNeg) &&& (63 : Int32)) = 9
    · have h := h.2.2.2.2.2.2.2.2.2.1 c9
      refine aw_tswIn (tgt := 508) dL_law_40 c9 (by decide) (by decide) (by first | rfl | decide) (by decide) ?_
      exact aw_sub [0, 1, 2, 3, 4] rfl h
    by_cases c10 : ((xs x4.toNatClampNeg) &&& (63 : Int32)) = 10
    · have h := h.2.2.2.2.2.2.2.2.2.2.1 c10
      refine aw_tswIn (tgt := 561) dL_law_40 c10 (by decide) (by decide) (by first | rfl | decide) (by decide) ?_
      exact aw_sub [0, 1, 2, 3, 4] rfl h
    by_cases c11 : ((xs x4.toNatClampNeg) &&& (63 : Int32)) = 11
    · have h := h.2.2.2.2.2.2.2.2.2.2.2.1 c11
      refine aw_tswIn (tgt := 598) dL_law_40 c11 (by decide) (by decide) (by first | rfl | decide) (by decide) ?_
      exact aw_sub [0, 1, 2, 3, 4] rfl h
    by_cases c12 : ((xs x4.toNatClampNeg) &&& (63 : Int32)) = 12
    · have h := h.2.2.2.2.2.2.2.2.2.2.2.2.1 c12
      refine aw_tswIn (tgt := 611) dL_law_40 c12 (by decide) (by decide) (by first | rfl | decide) (by decide) ?_
      exact aw_sub [0, 1, 2, 3, 4] rfl h
    by_cases c13 : ((xs x4.toNatClampNeg) &&& (63 : Int32)) = 13
    · have h := h.2.2.2.2.2.2.2.2.2.2.2.2.2.1 c13
      refine aw_tswIn (tgt := 660) dL_law_40 c13 (by decide) (by decide) (by first | rfl | decide) (by decide) ?_
      exact aw_sub [0, 1, 2, 3, 4] rfl h
    by_cases c14 : ((xs x4.toNatClampNeg) &&& (63 : Int32)) = 14
    · have h := h.2.2.2.2.2.2.2.2.2.2.2.2.2.2.1 c14
      refine aw_tswIn (tgt := 697) dL_law_40 c14 (by decide) (by decide) (by first | rfl | decide) (by decide) ?_
      exact aw_sub [0, 1, 2, 3, 4] rfl h
    by_cases c15 : ((xs x4.toNatClampNeg) &&& (63 : Int32)) = 15
    · have h := h.2.2.2.2.2.2.2.2.2.2.2.2.2.2.2.1 c15
      refine aw_tswIn (tgt := 746) dL_law_40 c15 (by decide) (by decide) (by first | rfl | decide) (by decide) ?_
      exact aw_sub [0, 1, 2, 3, 4] rfl h
    by_cases c16 : ((xs x4.toNatClampNeg) &&& (63 : Int32)) = 16
    · have h := h.2.2.2.2.2.2.2.2.2.2.2.2.2.2.2.2.1 c16
      refine aw_tswIn (tgt := 759) dL_law_40 c16 (by decide) (by decide) (by first | rfl | decide) (by decide) ?_
      exact aw_sub [0, 1, 2, 3, 4] rfl h
    by_cases c17 : ((xs x4.toNatClampNeg) &&& (63 : Int32)) = 17
    · have h := h.2.2.2.2.2.2.2.2.2.2.2.2.2.2.2.2.2.1 c17
      refine aw_tswIn (tgt := 796) dL_law_40 c17 (by decide) (by decide) (by first | rfl | decide) (by decide) ?_
      exact aw_sub [0, 1, 2, 3, 4] rfl h
    by_cases c18 : ((xs x4.toNatClampNeg) &&& (63 : Int32)) = 18
    · have h := h.2.2.2.2.2.2.2.2.2.2.2.2.2.2.2.2.2.2.1 c18
      refine aw_tswIn (tgt := 821) dL_law_40 c18 (by decide) (by decide) (by first | rfl | decide) (by decide) ?_
      exact aw_sub [0, 1, 2, 3, 4] rfl h
    by_cases c19 : ((xs x4.toNatClampNeg) &&& (63 : Int32)) = 19
    · have h := h.2.2.2.2.2.2.2.2.2.2.2.2.2.2.2.2.2.2.2.1 c19
      refine aw_tswIn (tgt := 846) dL_law_40 c19 (by decide) (by decide) (by first | rfl | decide) (by decide) ?_
      exact aw_sub [0, 1, 2, 3, 4] rfl h
    by_cases c20 : ((xs x4.toNatClampNeg) &&& (63 : Int32)) = 20
    · have h := h.2.2.2.2.2.2.2.2.2.2.2.2.2.2.2.2.2.2.2.2.1 c20
      refine aw_tswIn (tgt := 859) dL_law_40 c20 (by decide) (by decide) (by first | rfl | decide) (by decide) ?_
      exact aw_sub [0, 1, 2, 3, 4] rfl h
    by_cases c21 : ((xs x4.toNatClampNeg) &&& (63 : Int32)) = 21
    · have h := h.2.2.2.2.2.2.2.2.2.2.2.2.2.2.2.2.2.2.2.2.2.1 c21
      refine aw_tswIn (tgt := 884) dL_law_40 c21 (by decide) (by decide) (by first | rfl | decide) (by decide) ?_
      exact aw_sub [0, 1, 2, 3, 4] rfl h
    by_cases c22 : ((xs x4.toNatClampNeg) &&& (63 : Int32)) = 22
    · have h := h.2.2.2.2.2.2.2.2.2.2.2.2.2.2.2.2.2.2.2.2.2.2.1 c22
      refine aw_tswIn (tgt := 897) dL_law_40 c22 (by decide) (by decide) (by first | rfl | decide) (by decide) ?_
      exact aw_sub [0, 1, 2, 3, 4] rfl h
    by_cases c23 : ((xs x4.toNatClampNeg) &&& (63 : Int32)) = 23
    · have h := h.2.2.2.2.2.2.2.2.2.2.2.2.2.2.2.2.2.2.2.2.2.2.2.1 c23
      refine aw_tswIn (tgt := 910) dL_law_40 c23 (by decide) (by decide) (by first | rfl | decide) (by decide) ?_
      exact aw_sub [0, 1, 2, 3, 4] rfl h
    by_cases c24 : ((xs x4.toNatClampNeg) &&& (63 : Int32)) = 24
    · have h := h.2.2.2.2.2.2.2.2.2.2.2.2.2.2.2.2.2.2.2.2.2.2.2.2.1 c24
      refine aw_tswIn (tgt := 923) dL_law_40 c24 (by decide) (by decide) (by first | rfl | decide) (by decide) ?_
      exact aw_sub [0, 1, 2, 3, 4] rfl h
    by_cases c25 : ((xs x4.toNatClampNeg) &&& (63 : Int32)) = 25
    · have h := h.2.2.2.2.2.2.2.2.2.2.2.2.2.2.2.2.2.2.2.2.2.2.2.2.2.1 c25
      refine aw_tswIn (tgt := 960) dL_law_40 c25 (by decide) (by decide) (by first | rfl | decide) (by decide) ?_
      exact aw_sub [0, 1, 2, 3, 4] rfl h
    by_cases c26 : ((xs x4.toNatClampNeg) &&& (63 : Int32)) = 26
    · have h := h.2.2.2.2.2.2.2.2.2.2.2.2.2.2.2.2.2.2.2.2.2.2.2.2.2.2.1 c26
      refine aw_tswIn (tgt := 1009) dL_law_40 c26 (by decide) (by decide) (by first | rfl | decide) (by decide) ?_
      exact aw_sub [0, 1, 2, 3, 4] rfl h
    by_cases c27 : ((xs x4.toNatClampNeg) &&& (63 : Int32)) = 27
    · have h := h.2.2.2.2.2.2.2.2.2.2.2.2.2.2.2.2.2.2.2.2.2.2.2.2.2.2.2.1 c27
      refine aw_tswIn (tgt := 1058) dL_law_40 c27 (by decide) (by decide) (by first | rfl | decide) (by decide) ?_
      exact aw_sub [0, 1, 2, 3, 4] rfl h
    by_cases c28 : ((xs x4.toNatClampNeg) &&& (63 : Int32)) = 28
    · have h := h.2.2.2.2.2.2.2.2.2.2.2.2.2.2.2.2.2.2.2.2.2.2.2.2.2.2.2.2.1 c28
      refine aw_tswIn (tgt := 1083) dL_law_40 c28 (by decide) (by decide) (by first | rfl | decide) (by decide) ?_
      exact aw_sub [0, 1, 2, 3, 4] rfl h
    by_cases c29 : ((xs x4.toNatClampNeg) &&& (63 : Int32)) = 29
    · have h := h.2.2.2.2.2.2.2.2.2.2.2.2.2.2.2.2.2.2.2.2.2.2.2.2.2.2.2.2.2.1 c29
      refine aw_tswIn (tgt := 1132) dL_law_40 c29 (by decide) (by decide) (by first | rfl | decide) (by decide) ?_
      exact aw_sub [0, 1, 2, 3, 4] rfl h
    by_cases c30 : ((xs x4.toNatClampNeg) &&& (63 : Int32)) = 30
    · have h := h.2.2.2.2.2.2.2.2.2.2.2.2.2.2.2.2.2.2.2.2.2.2.2.2.2.2.2.2.2.2.1 c30
      refine aw_tswIn (tgt := 1157) dL_law_40 c30 (by decide) (by decide) (by first | rfl | decide) (by decide) ?_
      exact aw_sub [0, 1, 2, 3, 4] rfl h
    by_cases c31 : ((xs x4.toNatClampNeg) &&& (63 : Int32)) = 31
    · have h := h.2.2.2.2.2.2.2.2.2.2.2.2.2.2.2.2.2.2.2.2.2.2.2.2.2.2.2.2.2.2.2.1 c31
      refine aw_tswIn (tgt := 1194) dL_law_40 c31 (by decide) (by decide) (by first | rfl | decide) (by decide) ?_
      exact aw_sub [0, 1, 2, 3, 4] rfl h
    by_cases c32 : ((xs x4.toNatClampNeg) &&& (63 : Int32)) = 32
    · have h := h.2.2.2.2.2.2.2.2.2.2.2.2.2.2.2.2.2.2.2.2.2.2.2.2.2.2.2.2.2.2.2.2.1 c32
      refine aw_tswIn (tgt := 1219) dL_law_40 c32 (by decide) (by decide) (by first | rfl | decide) (by decide) ?_
      exact aw_sub [0, 1, 2, 3, 4] rfl h
    by_cases c33 : ((xs x4.toNatClampNeg) &&& (63 : Int32)) = 33
    · have h := h.2.2.2.2.2.2.2.2.2.2.2.2.2.2.2.2.2.2.2.2.2.2.2.2.2.2.2.2.2.2.2.2.2.1 c33
      refine aw_tswIn (tgt := 1232) dL_law_40 c33 (by decide) (by decide) (by first | rfl | decide) (by decide) ?_
      exact aw_sub [0, 1, 2, 3, 4] rfl h
    by_cases c34 : ((xs x4.toNatClampNeg) &&& (63 : Int32)) = 34
    · have h := h.2.2.2.2.2.2.2.2.2.2.2.2.2.2.2.2.2.2.2.2.2.2.2.2.2.2.2.2.2.2.2.2.2.2.1 c34
      refine aw_tswIn (tgt := 1257) dL_law_40 c34 (by decide) (by decide) (by first | rfl | decide) (by decide) ?_
      exact aw_sub [0, 1, 2, 3, 4] rfl h
    by_cases c35 : ((xs x4.toNatClampNeg) &&& (63 : Int32)) = 35
    · have h := h.2.2.2.2.2.2.2.2.2.2.2.2.2.2.2.2.2.2.2.2.2.2.2.2.2.2.2.2.2.2.2.2.2.2.2.1 c35
      refine aw_tswIn (tgt := 1306) dL_law_40 c35 (by decide) (by decide) (by first | rfl | decide) (by decide) ?_
      exact aw_sub [0, 1, 2, 3, 4] rfl h
    by_cases c36 : ((xs x4.toNatClampNeg) &&& (63 : Int32)) = 36
    · have h := h.2.2.2.2.2.2.2.2.2.2.2.2.2.2.2.2.2.2.2.2.2.2.2.2.2.2.2.2.2.2.2.2.2.2.2.2.1 c36
      refine aw_tswIn (tgt := 1319) dL_law_40 c36 (by decide) (by decide) (by first | rfl | decide) (by decide) ?_
      exact aw_sub [0, 1, 2, 3, 4] rfl h
    by_cases c37 : ((xs x4.toNatClampNeg) &&& (63 : Int32)) = 37
    · have h := h.2.2.2.2.2.2.2.2.2.2.2.2.2.2.2.2.2.2.2.2.2.2.2.2.2.2.2.2.2.2.2.2.2.2.2.2.2.1 c37
      refine aw_tswIn (tgt := 1332) dL_law_40 c37 (by decide) (by decide) (by first | rfl | decide) (by decide) ?_
      exact aw_sub [0, 1, 2, 3, 4] rfl h
    by_cases c38 : ((xs x4.toNatClampNeg) &&& (63 : Int32)) = 38
    · have h := h.2.2.2.2.2.2.2.2.2.2.2.2.2.2.2.2.2.2.2.2.2.2.2.2.2.2.2.2.2.2.2.2.2.2.2.2.2.2.1 c38
      refine aw_tswIn (tgt := 1369) dL_law_40 c38 (by decide) (by decide) (by first | rfl | decide) (by decide) ?_
      exact aw_sub [0, 1, 2, 3, 4] rfl h
    by_cases c39 : ((xs x4.toNatClampNeg) &&& (63 : Int32)) = 39
    · have h := h.2.2.2.2.2.2.2.2.2.2.2.2.2.2.2.2.2.2.2.2.2.2.2.2.2.2.2.2.2.2.2.2.2.2.2.2.2.2.2.1 c39
      refine aw_tswIn (tgt := 1394) dL_law_40 c39 (by decide) (by decide) (by first | rfl | decide) (by decide) ?_
      exact aw_sub [0, 1, 2, 3, 4] rfl h
    by_cases c40 : ((xs x4.toNatClampNeg) &&& (63 : Int32)) = 40
    · have h := h.2.2.2.2.2.2.2.2.2.2.2.2.2.2.2.2.2.2.2.2.2.2.2.2.2.2.2.2.2.2.2.2.2.2.2.2.2.2.2.2.1 c40
      refine aw_tswIn (tgt := 1419) dL_law_40 c40 (by decide) (by decide) (by first | rfl | decide) (by decide) ?_
      exact aw_sub [0, 1, 2, 3, 4] rfl h
    by_cases c41 : ((xs x4.toNatClampNeg) &&& (63 : Int32)) = 41
    · have h := h.2.2.2.2.2.2.2.2.2.2.2.2.2.2.2.2.2.2.2.2.2.2.2.2.2.2.2.2.2.2.2.2.2.2.2.2.2.2.2.2.2.1 c41
      refine aw_tswIn (tgt := 1444) dL_law_40 c41 (by decide) (by decide) (by first | rfl | decide) (by decide) ?_
      exact aw_sub [0, 1, 2, 3, 4] rfl h
    by_cases c42 : ((xs x4.toNatClampNeg) &&& (63 : Int32)) = 42
    · have h := h.2.2.2.2.2.2.2.2.2.2.2.2.2.2.2.2.2.2.2.2.2.2.2.2.2.2.2.2.2.2.2.2.2.2.2.2.2.2.2.2.2.2.1 c42
      refine aw_tswIn (tgt := 1469) dL_law_40 c42 (by decide) (by decide) (by first | rfl | decide) (by decide) ?_
      exact aw_sub [0, 1, 2, 3, 4] rfl h
    by_cases c43 : ((xs x4.toNatClampNeg) &&& (63 : Int32)) = 43
    · have h := h.2.2.2.2.2.2.2.2.2.2.2.2.2.2.2.2.2.2.2.2.2.2.2.2.2.2.2.2.2.2.2.2.2.2.2.2.2.2.2.2.2.2.2.1 c43
      refine aw_tswIn (tgt := 1494) dL_law_40 c43 (by decide) (by decide) (by first | rfl | decide) (by decide) ?_
      exact aw_sub [0, 1, 2, 3, 4] rfl h
    have h := h.2.2.2.2.2.2.2.2.2.2.2.2.2.2.2.2.2.2.2.2.2.2.2.2.2.2.2.2.2.2.2.2.2.2.2.2.2.2.2.2.2.2.2.2 c0 c1 c2 c3 c4 c5 c6 c7 c8 c9 c10 c11 c12 c13 c14 c15 c16 c17 c18 c19 c20 c21 c22 c23 c24 c25 c26 c27 c28 c29 c30 c31 c32 c33 c34 c35 c36 c37 c38 c39 c40 c41 c42 c43
    refine aw_tswOut (tgt := 1522) dL_law_40 (by have e0 := i32_ne (n := 0) c0 (by decide); have e1 := i32_ne (n := 1) c1 (by decide); have e2 := i32_ne (n := 2) c2 (by decide); have e3 := i32_ne (n := 3) c3 (by decide); have e4 := i32_ne (n := 4) c4 (by decide); have e5 := i32_ne (n := 5) c5 (by decide); have e6 := i32_ne (n := 6) c6 (by decide); have e7 := i32_ne (n := 7) c7 (by decide); have e8 := i32_ne (n := 8) c8 (by decide); have e9 := i32_ne (n := 9) c9 (by decide); have e10 := i32_ne (n := 10) c10 (by decide); have e11 := i32_ne (n := 11) c11 (by decide); have e12 := i32_ne (n := 12) c12 (by decide); have e13 := i32_ne (n := 13) c13 (by decide); have e14 := i32_ne (n := 14) c14 (by decide); have e15 := i32_ne (n := 15) c15 (by decide); have e16 := i32_ne (n := 16) c16 (by decide); have e17 := i32_ne (n := 17) c17 (by decide); have e18 := i32_ne (n := 18) c18 (by decide); have e19 := i32_ne (n := 19) c19 (by decide); have e20 := i32_ne (n := 20) c20 (by decide); have e21 := i32_ne (n := 21) c21 (by decide); have e22 := i32_ne (n := 22) c22 (by decide); have e23 := i32_ne (n := 23) c23 (by decide); have e24 := i32_ne (n := 24) c24 (by decide); have e25 := i32_ne (n := 25) c25 (by decide); have e26 := i32_ne (n := 26) c26 (by decide); have e27 := i32_ne (n := 27) c27 (by decide); have e28 := i32_ne (n := 28) c28 (by decide); have e29 := i32_ne (n := 29) c29 (by decide); have e30 := i32_ne (n := 30) c30 (by decide); have e31 := i32_ne (n := 31) c31 (by decide); have e32 := i32_ne (n := 32) c32 (by decide); have e33 := i32_ne (n := 33) c33 (by decide); have e34 := i32_ne (n := 34) c34 (by decide); have e35 := i32_ne (n := 35) c35 (by decide); have e36 := i32_ne (n := 36) c36 (by decide); have e37 := i32_ne (n := 37) c37 (by decide); have e38 := i32_ne (n := 38) c38 (by decide); have e39 := i32_ne (n := 39) c39 (by decide); have e40 := i32_ne (n := 40) c40 (by decide); have e41 := i32_ne (n := 41) c41 (by decide); have e42 := i32_ne (n := 42) c42 (by decide); have e43 := i32_ne (n := 43) c43 (by decide); omega) (by decide) ?_
    refine aw_iinc (j := 4) (v := x4 + (6 : Int32)) (L' := [(4, .int (x4 + (6 : Int32))), (0, .ref sb), (1, .ref (ad 0)), (2, .ref (ad 187)), (3, .ref (ad 217))]) dL_law_1522 rfl rfl (by decide) rfl ?_
    refine aw_goto (tgt := 23) dL_law_1525 (by decide) ?_
    exact aw_drop (Nat.le_succ _) (Nat.le_add_right _ _) (aw_sub [1, 2, 3, 4, 0] rfl h)
set_option maxRecDepth 100000 in
set_option maxHeartbeats 4000000 in
theorem g_L_law_232 {ad : Nat → Nat} {sb Ls kc ks : Nat} {xs : Nat → Int32} {d : Nat} {Q : Option Value → Wm → Prop} {m : Wm} {x4 : Int32} (h : (vp_in (x4 + (1 : Int32)) Ls ∧ (Ct ad μX11_sign d [.ref (ad 0), .int (xs (x4 + (1 : Int32)).toNatClampNeg)] m (fun r m1 => ∃ v2 : Int32, r = some (.int v2) ∧ (vp_in (x4 + (1 : Int32)) Ls ∧ (Ct ad μX12_sign d [.ref (ad 187), .int (xs (x4 + (1 : Int32)).toNatClampNeg)] m1 (fun r m3 => ∃ v4 : Int32, r = some (.int v4) ∧ AWl LAY ad (EX (SX sb Ls xs) kc ks LAY) μL_law (d + 1) Q 23 [(0, .ref sb), (1, .ref (ad 0)), (2, .ref (ad 187)), (3, .ref (ad 217)), (4, .int (x4 + (6 : Int32)))] [] m3))))))) : AWl LAY ad (EX (SX sb Ls xs) (kc + 1) (ks + 6) LAY) μL_law (d + 1) Q 232 [(0, .ref sb), (1, .ref (ad 0)), (2, .ref (ad 187)), (3, .ref (ad 217)), (4, .int x4)] [] m := by
  refine aw_aload_n (j := 1) dL_law_232 rfl rfl ?_
  refine aw_aload_n (j := 0) dL_law_233 rfl rfl ?_
  refine aw_iload (j := 4) dL_law_234 rfl ?_
  refine aw_iconst (v := 1) dL_law_236 (by decide) ?_
  refine aw_iadd dL_law_237 ?_
  obtain ⟨hi, h⟩ := h
  refine aw_sld dL_law_238 hi ?_
  refine aw_callV (rest := []) [.int (xs (x4 + (1 : Int32)).toNatClampNeg)] dL_law_239 ly_0 rfl k_L_23 rfl h (Nat.le_of_ble_eq_true rfl) (fun v m1 h => ?_)
  obtain ⟨v2, rfl, h⟩ := h
  refine aw_eq (L' := [(0, .ref sb), (1, .ref (ad 0)), (2, .ref (ad 187)), (3, .ref (ad 217)), (4, .int x4)]) (st' := [.int v2]) (m' := m1) ?_ rfl rfl rfl
  refine aw_pop dL_law_242 rfl ?_
  refine aw_aload_n (j := 2) dL_law_243 rfl rfl ?_
  refine aw_aload_n (j := 0) dL_law_244 rfl rfl ?_
  refine aw_iload (j := 4) dL_law_245 rfl ?_
  refine aw_iconst (v := 1) dL_law_247 (by decide) ?_
  refine aw_iadd dL_law_248 ?_
  obtain ⟨hi, h⟩ := h
  refine aw_sld dL_law_249 hi ?_
  refine aw_callV (rest := []) [.int (xs (x4 + (1 : Int32)).toNatClampNeg)] dL_law_250 ly_187 rfl k_L_27 rfl h (Nat.le_of_ble_eq_true rfl) (fun v m3 h => ?_)
  obtain ⟨v4, rfl, h⟩ := h
  refine aw_eq (L' := [(0, .ref sb), (1, .ref (ad 0)), (2, .ref (ad 187)), (3, .ref (ad 217)), (4, .int x4)]) (st' := [.int v4]) (m' := m3) ?_ rfl rfl rfl
  refine aw_pop dL_law_253 rfl ?_
  refine aw_goto (tgt := 1522) dL_law_254 (by decide) ?_
  refine aw_iinc (j := 4) (v := x4 + (6 : Int32)) (L' := [(4, .int (x4 + (6 : Int32))), (0, .ref sb), (1, .ref (ad 0)), (2, .ref (ad 187)), (3, .ref (ad 217))]) dL_law_1522 rfl rfl (by decide) rfl ?_
  refine aw_goto (tgt := 23) dL_law_1525 (by decide) ?_
  exact aw_drop (Nat.le_succ _) (Nat.le_add_right _ _) (aw_sub [1, 2, 3, 4, 0] rfl h)
set_option maxRecDepth 100000 in
set_option maxHeartbeats 4000000 in
theorem g_L_law_257 {ad : Nat → Nat} {sb Ls kc ks : Nat} {xs : Nat → Int32} {d : Nat} {Q : Option Value → Wm → Prop} {m : Wm} {x4 : Int32} (h : (vp_in (x4 + (1 : Int32)) Ls ∧ (Ct ad μX11_end d [.ref (ad 0), .int (xs (x4 + (1 : Int32)).toNatClampNeg)] m (fun r m1 => ∃ v2 : Int32, r = some (.int v2) ∧ (vp_in (x4 + (1 : Int32)) Ls ∧ (Ct ad μX12_end d [.ref (ad 187), .int (xs (x4 + (1 : Int32)).toNatClampNeg)] m1 (fun r m3 => ∃ v4 : Int32, r = some (.int v4) ∧ AWl LAY ad (EX (SX sb Ls xs) kc ks LAY) μL_law (d + 1) Q 23 [(0, .ref sb), (1, .ref (ad 0)), (2, .ref (ad 187)), (3, .ref (ad 217)), (4, .int (x4 + (6 : Int32)))] [] m3))))))) : AWl LAY ad (EX (SX sb Ls xs) (kc + 1) (ks + 6) LAY) μL_law (d + 1) Q 257 [(0, .ref sb), (1, .ref (ad 0)), (2, .ref (ad 187)), (3, .ref (ad 217)), (4, .int x4)] [] m := by
  refine aw_aload_n (j := 1) dL_law_257 rfl rfl ?_
  refine aw_aload_n (j := 0) dL_law_258 rfl rfl ?_
  refine aw_iload (j := 4) dL_law_259 rfl ?_
  refine aw_iconst (v := 1) dL_law_261 (by decide) ?_
  refine aw_iadd dL_law_262 ?_
  obtain ⟨hi, h⟩ := h
  refine aw_sld dL_law_263 hi ?_
  refine aw_callV (rest := []) [.int (xs (x4 + (1 : Int32)).toNatClampNeg)] dL_law_264 ly_0 rfl k_L_28 rfl h (Nat.le_of_ble_eq_true rfl) (fun v m1 h => ?_)
  obtain ⟨v2, rfl, h⟩ := h
  refine aw_eq (L' := [(0, .ref sb), (1, .ref (ad 0)), (2, .ref (ad 187)), (3, .ref (ad 217)), (4, .int x4)]) (st' := [.int v2]) (m' := m1) ?_ rfl rfl rfl
  refine aw_pop dL_law_267 rfl ?_
  refine aw_aload_n (j := 2) dL_law_268 rfl rfl ?_
  refine aw_aload_n (j := 0) dL_law_269 rfl rfl ?_
  refine aw_iload (j := 4) dL_law_270 rfl ?_
  refine aw_iconst (v := 1) dL_law_272 (by decide) ?_
  refine aw_iadd dL_law_273 ?_
  obtain ⟨hi, h⟩ := h
  refine aw_sld dL_law_274 hi ?_
  refine aw_callV (rest := []) [.int (xs (x4 + (1 : Int32)).toNatClampNeg)] dL_law_275 ly_187 rfl k_L_32 rfl h (Nat.le_of_ble_eq_true rfl) (fun v m3 h => ?_)
  obtain ⟨v4, rfl, h⟩ := h
  refine aw_eq (L' := [(0, .ref sb), (1, .ref (ad 0)), (2, .ref (ad 187)), (3, .ref (ad 217)), (4, .int x4)]) (st' := [.int v4]) (m' := m3) ?_ rfl rfl rfl
  refine aw_pop dL_law_278 rfl ?_
  refine aw_goto (tgt := 1522) dL_law_279 (by decide) ?_
  refine aw_iinc (j := 4) (v := x4 + (6 : Int32)) (L' := [(4, .int (x4 + (6 : Int32))), (0, .ref sb), (1, .ref (ad 0)), (2, .ref (ad 187)), (3, .ref (ad 217))]) dL_law_1522 rfl rfl (by decide) rfl ?_
  refine aw_goto (tgt := 23) dL_law_1525 (by decide) ?_
  exact aw_drop (Nat.le_succ _) (Nat.le_add_right _ _) (aw_sub [1, 2, 3, 4, 0] rfl h)
set_option maxRecDepth 100000 in
set_option maxHeartbeats 4000000 in
theorem g_L_law_282 {ad : Nat → Nat} {sb Ls kc ks : Nat} {xs : Nat → Int32} {d : Nat} {Q : Option Value → Wm → Prop} {m : Wm} {x4 : Int32} (h : (Ct ad μX11_league d [.ref (ad 0)] m (fun r m1 => ∃ v2 : Int32, r = some (.int v2) ∧ (Ct ad μX12_league d [.ref (ad 187)] m1 (fun r m3 => ∃ v4 : Int32, r = some (.int v4) ∧ AWl LAY ad (EX (SX sb Ls xs) kc ks LAY) μL_law (d + 1) Q 23 [(0, .ref sb), (1, .ref (ad 0)), (2, .ref (ad 187)), (3, .ref (ad 217)), (4, .int (x4 + (6 : Int32)))] [] m3))))) : AWl LAY ad (EX (SX sb Ls xs) (kc + 1) (ks + 6) LAY) μL_law (d + 1) Q 282 [(0, .ref sb), (1, .ref (ad 0)), (2, .ref (ad 187)), (3, .ref (ad 217)), (4, .int x4)] [] m := by
  refine aw_aload_n (j := 1) dL_law_282 rfl rfl ?_
  refine aw_callV (rest := []) [] dL_law_283 ly_0 rfl k_L_33 rfl h (Nat.le_of_ble_eq_true rfl) (fun v m1 h => ?_)
  obtain ⟨v2, rfl, h⟩ := h
  refine aw_eq (L' := [(0, .ref sb), (1, .ref (ad 0)), (2, .ref (ad 187)), (3, .ref (ad 217)), (4, .int x4)]) (st' := [.int v2]) (m' := m1) ?_ rfl rfl rfl
  refine aw_pop dL_law_286 rfl ?_
  refine aw_aload_n (j := 2) dL_law_287 rfl rfl ?_
  refine aw_callV (rest := []) [] dL_law_288 ly_187 rfl k_L_37 rfl h (Nat.le_of_ble_eq_true rfl) (fun v m3 h => ?_)
  obtain ⟨v4, rfl, h⟩ := h
  refine aw_eq (L' := [(0, .ref sb), (1, .ref (ad 0)), (2, .ref (ad 187)), (3, .ref (ad 217)), (4, .int x4)]) (st' := [.int v4]) (m' := m3) ?_ rfl rfl rfl
  refine aw_pop dL_law_291 rfl ?_
  refine aw_goto (tgt := 1522) dL_law_292 (by decide) ?_
  refine aw_iinc (j := 4) (v := x4 + (6 : Int32)) (L' := [(4, .int (x4 + (6 : Int32))), (0, .ref sb), (1, .ref (ad 0)), (2, .ref (ad 187)), (3, .ref (ad 217))]) dL_law_1522 rfl rfl (by decide) rfl ?_
  refine aw_goto (tgt := 23) dL_law_1525 (by decide) ?_
  exact aw_drop (Nat.le_succ _) (Nat.le_add_right _ _) (aw_sub [1, 2, 3, 4, 0] rfl h)
set_option maxRecDepth 100000 in
set_option maxHeartbeats 4000000 in
theorem g_L_law_295 {ad : Nat → Nat} {sb Ls kc ks : Nat} {xs : Nat → Int32} {d : Nat} {Q : Option Value → Wm → Prop} {m : Wm} {x4 : Int32} (h : (Ct ad μX11_rule d [.ref (ad 0)] m (fun r m1 => ∃ v2 : Int32, r = some (.int v2) ∧ (Ct ad μX12_rule d [.ref (ad 187)] m1 (fun r m3 => ∃ v4 : Int32, r = some (.int v4) ∧ AWl LAY ad (EX (SX sb Ls xs) kc ks LAY) μL_law (d + 1) Q 23 [(0, .ref sb), (1, .ref (ad 0)), (2, .ref (ad 187)), (3, .ref (ad 217)), (4, .int (x4 + (6 : Int32)))] [] m3))))) : AWl LAY ad (EX (SX sb Ls xs) (kc + 1) (ks + 6) LAY) μL_law (d + 1) Q 295 [(0, .ref sb), (1, .ref (ad 0)), (2, .ref (ad 187)), (3, .ref (ad 217)), (4, .int x4)] [] m := by
  refine aw_aload_n (j := 1) dL_law_295 rfl rfl ?_
  refine aw_callV (rest := []) [] dL_law_296 ly_0 rfl k_L_38 rfl h (Nat.le_of_ble_eq_true rfl) (fun v m1 h => ?_)
  obtain ⟨v2, rfl, h⟩ := h
  refine aw_eq (L' := [(0, .ref sb), (1, .ref (ad 0)), (2, .ref (ad 187)), (3, .ref (ad 217)), (4, .int x4)]) (st' := [.int v2]) (m' := m1) ?_ rfl rfl rfl
  refine aw_pop dL_law_299 rfl ?_
  refine aw_aload_n (j := 2) dL_law_300 rfl rfl ?_
  refine aw_callV (rest := []) [] dL_law_301 ly_187 rfl k_L_41 rfl h (Nat.le_of_ble_eq_true rfl) (fun v m3 h => ?_)
  obtain ⟨v4, rfl, h⟩ := h
  refine aw_eq (L' := [(0, .ref sb), (1, .ref (ad 0)), (2, .ref (ad 187)), (3, .ref (ad 217)), (4, .int x4)]) (st' := [.int v4]) (m' := m3) ?_ rfl rfl rfl
  refine aw_pop dL_law_304 rfl ?_
  refine aw_goto (tgt := 1522) dL_law_305 (by decide) ?_
  refine aw_iinc (j := 4) (v := x4 + (6 : Int32)) (L' := [(4, .int (x4 + (6 : Int32))), (0, .ref sb), (1, .ref (ad 0)), (2, .ref (ad 187)), (3, .ref (ad 217))]) dL_law_1522 rfl rfl (by decide) rfl ?_
  refine aw_goto (tgt := 23) dL_law_1525 (by decide) ?_
  exact aw_drop (Nat.le_succ _) (Nat.le_add_right _ _) (aw_sub [1, 2, 3, 4, 0] rfl h)
set_option maxRecDepth 100000 in
set_option maxHeartbeats 4000000 in
theorem g_L_law_308 {ad : Nat → Nat} {sb Ls kc ks : Nat} {xs : Nat → Int32} {d : Nat} {Q : Option Value → Wm → Prop} {m : Wm} {x4 : Int32} (h : (Ct ad μX11_plan d [.ref (ad 0)] m (fun r m1 => ∃ v2 : Int32, r = some (.int v2) ∧ (Ct ad μX12_plan d [.ref (ad 187)] m1 (fun r m3 => ∃ v4 : Int32, r = some (.int v4) ∧ AWl LAY ad (EX (SX sb Ls xs) kc ks LAY) μL_law (d + 1) Q 23 [(0, .ref sb), (1, .ref (ad 0)), (2, .ref (ad 187)), (3, .ref (ad 217)), (4, .int (x4 + (6 : Int32)))] [] m3))))) : AWl LAY ad (EX (SX sb Ls xs) (kc + 1) (ks + 6) LAY) μL_law (d + 1) Q 308 [(0, .ref sb), (1, .ref (ad 0)), (2, .ref (ad 187)), (3, .ref (ad 217)), (4, .int x4)] [] m := by
  refine aw_aload_n (j := 1) dL_law_308 rfl rfl ?_
  refine aw_callV (rest := []) [] dL_law_309 ly_0 rfl k_L_42 rfl h (Nat.le_of_ble_eq_true rfl) (fun v m1 h => ?_)
  obtain ⟨v2, rfl, h⟩ := h
  refine aw_eq (L' := [(0, .ref sb), (1, .ref (ad 0)), (2, .ref (ad 187)), (3, .ref (ad 217)), (4, .int x4)]) (st' := [.int v2]) (m' := m1) ?_ rfl rfl rfl
  refine aw_pop dL_law_312 rfl ?_
  refine aw_aload_n (j := 2) dL_law_313 rfl rfl ?_
  refine aw_callV (rest := []) [] dL_law_314 ly_187 rfl k_L_45 rfl h (Nat.le_of_ble_eq_true rfl) (fun v m3 h => ?_)
  obtain ⟨v4, rfl, h⟩ := h
  refine aw_eq (L' := [(0, .ref sb), (1, .ref (ad 0)), (2, .ref (ad 187)), (3, .ref (ad 217)), (4, .int x4)]) (st' := [.int v4]) (m' := m3) ?_ rfl rfl rfl
  refine aw_pop dL_law_317 rfl ?_
  refine aw_goto (tgt := 1522) dL_law_318 (by decide) ?_
  refine aw_iinc (j := 4) (v := x4 + (6 : Int32)) (L' := [(4, .int (x4 + (6 : Int32))), (0, .ref sb), (1, .ref (ad 0)), (2, .ref (ad 187)), (3, .ref (ad 217))]) dL_law_1522 rfl rfl (by decide) rfl ?_
  refine aw_goto (tgt := 23) dL_law_1525 (by decide) ?_
  exact aw_drop (Nat.le_succ _) (Nat.le_add_right _ _) (aw_sub [1, 2, 3, 4, 0] rfl h)
set_option maxRecDepth 100000 in
set_option maxHeartbeats 4000000 in
theorem g_L_law_321 {ad : Nat → Nat} {sb Ls kc ks : Nat} {xs : Nat → Int32} {d : Nat} {Q : Option Value → Wm → Prop} {m : Wm} {x4 : Int32} (h : (vp_in (x4 + (1 : Int32)) Ls ∧ (vp_in (x4 + (2 : Int32)) Ls ∧ (Ct ad μX11_skill d [.ref (ad 0), .int (xs (x4 + (1 : Int32)).toNatClampNeg), .int (xs (x4 + (2 : Int32)).toNatClampNeg)] m (fun r m1 => ∃ v2 : Int32, r = some (.int v2) ∧ (vp_in (x4 + (1 : Int32)) Ls ∧ (vp_in (x4 + (2 : Int32)) Ls ∧ (Ct ad μX12_skill d [.ref (ad 187), .int (xs (x4 + (1 : Int32)).toNatClampNeg), .int (xs (x4 + (2 : Int32)).toNatClampNeg)] m1 (fun r m3 => ∃ v4 : Int32, r = some (.int v4) ∧ AWl LAY ad (EX (SX sb Ls xs) kc ks LAY) μL_law (d + 1) Q 23 [(0, .ref sb), (1, .ref (ad 0)), (2, .ref (ad 187)), (3, .ref (ad 217)), (4, .int (x4 + (6 : Int32)))] [] m3))))))))) : AWl LAY ad (EX (SX sb Ls xs) (kc + 1) (ks + 6) LAY) μL_law (d + 1) Q 321 [(0, .ref sb), (1, .ref (ad 0)), (2, .ref (ad 187)), (3, .ref (ad 217)), (4, .int x4)] [] m := by
  refine aw_aload_n (j := 1) dL_law_321 rfl rfl ?_
  refine aw_aload_n (j := 0) dL_law_322 rfl rfl ?_
  refine aw_iload (j := 4) dL_law_323 rfl ?_
  refine aw_iconst (v := 1) dL_law_325 (by decide) ?_
  refine aw_iadd dL_law_326 ?_
  obtain ⟨hi, h⟩ := h
  refine aw_sld dL_law_327 hi ?_
  refine aw_aload_n (j := 0) dL_law_328 rfl rfl ?_
  refine aw_iload (j := 4) dL_law_329 rfl ?_
  refine aw_iconst (v := 2) dL_law_331 (by decide) ?_
  refine aw_iadd dL_law_332 ?_
  obtain ⟨hi, h⟩ := h
  refine aw_sld dL_law_333 hi ?_
  refine aw_callV (rest := []) [.int (xs (x4 + (1 : Int32)).toNatClampNeg), .int (xs (x4 + (2 : Int32)).toNatClampNeg)] dL_law_334 ly_0 rfl k_L_46 rfl h (Nat.le_of_ble_eq_true rfl) (fun v m1 h => ?_)
  obtain ⟨v2, rfl, h⟩ := h
  refine aw_eq (L' := [(0, .ref sb), (1, .ref (ad 0)), (2, .ref (ad 187)), (3, .ref (ad 217)), (4, .int x4)]) (st' := [.int v2]) (m' := m1) ?_ rfl rfl rfl
  refine aw_pop dL_law_337 rfl ?_
  refine aw_aload_n (j := 2) dL_law_338 rfl rfl ?_
  refine aw_aload_n (j := 0) dL_law_339 rfl rfl ?_
  refine aw_iload (j := 4) dL_law_340 rfl ?_
  refine aw_iconst (v := 1) dL_law_342 (by decide) ?_
  refine aw_iadd dL_law_343 ?_
  obtain ⟨hi, h⟩ := h
  refine aw_sld dL_law_344 hi ?_
  refine aw_aload_n (j := 0) dL_law_345 rfl rfl ?_
  refine aw_iload (j := 4) dL_law_346 rfl ?_
  refine aw_iconst (v := 2) dL_law_348 (by decide) ?_
  refine aw_iadd dL_law_349 ?_
  obtain ⟨hi, h⟩ := h
  refine aw_sld dL_law_350 hi ?_
  refine aw_callV (rest := []) [.int (xs (x4 + (1 : Int32)).toNatClampNeg), .int (xs (x4 + (2 : Int32)).toNatClampNeg)] dL_law_351 ly_187 rfl k_L_49 rfl h (Nat.le_of_ble_eq_true rfl) (fun v m3 h => ?_)
  obtain ⟨v4, rfl, h⟩ := h
  refine aw_eq (L' := [(0, .ref sb), (1, .ref (ad 0)), (2, .ref (ad 187)), (3, .ref (ad 217)), (4, .int x4)]) (st' := [.int v4]) (m' := m3) ?_ rfl rfl rfl
  refine aw_pop dL_law_354 rfl ?_
  refine aw_goto (tgt := 1522) dL_law_355 (by decide) ?_
  refine aw_iinc (j := 4) (v := x4 + (6 : Int32)) (L' := [(4, .int (x4 + (6 : Int32))), (0, .ref sb), (1, .ref (ad 0)), (2, .ref (ad 187)), (3, .ref (ad 217))]) dL_law_1522 rfl rfl (by decide) rfl ?_
  refine aw_goto (tgt := 23) dL_law_1525 (by decide) ?_
  exact aw_drop (Nat.le_succ _) (Nat.le_add_right _ _) (aw_sub [1, 2, 3, 4, 0] rfl h)
set_option maxRecDepth 100000 in
set_option maxHeartbeats 4000000 in
theorem g_L_law_358 {ad : Nat → Nat} {sb Ls kc ks : Nat} {xs : Nat → Int32} {d : Nat} {Q : Option Value → Wm → Prop} {m : Wm} {x4 : Int32} (h : (vp_in (x4 + (1 : Int32)) Ls ∧ (vp_in (x4 + (2 : Int32)) Ls ∧ (Ctg ad μL_of hL_of d 1 6 [.ref (ad 0), .int (xs (x4 + (1 : Int32)).toNatClampNeg), .int (xs (x4 + (2 : Int32)).toNatClampNeg), .ref (ad 217)] m (fun r m1 => ∃ v2 : Int32, r = some (.int v2) ∧ (vp_in (x4 + (1 : Int32)) Ls ∧ (vp_in (x4 + (2 : Int32)) Ls ∧ (Ct ad μX12_of d [.ref (ad 187), .int (xs (x4 + (1 : Int32)).toNatClampNeg), .int (xs (x4 + (2 : Int32)).toNatClampNeg)] m1 (fun r m3 => ∃ v4 : Int32, r = some (.int v4) ∧ AWl LAY ad (EX (SX sb Ls xs) kc ks LAY) μL_law (d + 1) Q 23 [(0, .ref sb), (1, .ref (ad 0)), (2, .ref (ad 187)), (3, .ref (ad 217)), (4, .int (x4 + (6 : Int32)))] [] m3))))))))) : AWl LAY ad (EX (SX sb Ls xs) (kc + 1) (ks + 6) LAY) μL_law (d + 1) Q 358 [(0, .ref sb), (1, .ref (ad 0)), (2, .ref (ad 187)), (3, .ref (ad 217)), (4, .int x4)] [] m := by
  refine aw_aload_n (j := 1) dL_law_358 rfl rfl ?_
  refine aw_aload_n (j := 0) dL_law_359 rfl rfl ?_
  refine aw_iload (j := 4) dL_law_360 rfl ?_
  refine aw_iconst (v := 1) dL_law_362 (by decide) ?_
  refine aw_iadd dL_law_363 ?_
  obtain ⟨hi, h⟩ := h
  refine aw_sld dL_law_364 hi ?_
  refine aw_aload_n (j := 0) dL_law_365 rfl rfl ?_
  refine aw_iload (j := 4) dL_law_366 rfl ?_
  refine aw_iconst (v := 2) dL_law_368 (by decide) ?_
  refine aw_iadd dL_law_369 ?_
  obtain ⟨hi, h⟩ := h
  refine aw_sld dL_law_370 hi ?_
  refine aw_aload_n (j := 3) dL_law_371 rfl rfl ?_
  refine aw_callSg (rest := []) [.ref (ad 0), .int (xs (x4 + (1 : Int32)).toNatClampNeg), .int (xs (x4 + (2 : Int32)).toNatClampNeg), .ref (ad 217)] dL_law_372 k_L_50 rfl h (Nat.le_of_ble_eq_true rfl) (fun v m1 h => ?_)
  obtain ⟨v2, rfl, h⟩ := h
  refine aw_eq (L' := [(0, .ref sb), (1, .ref (ad 0)), (2, .ref (ad 187)), (3, .ref (ad 217)), (4, .int x4)]) (st' := [.int v2]) (m' := m1) ?_ rfl rfl rfl
  refine aw_istore (L' := [(5, .int v2), (0, .ref sb), (1, .ref (ad 0)), (2, .ref (ad 187)), (3, .ref (ad 217)), (4, .int x4)]) dL_law_375 (by decide) rfl ?_
  refine aw_aload_n (j := 3) dL_law_377 rfl rfl ?_
  refine aw_aload_n (j := 1) dL_law_378 rfl rfl ?_
  refine aw_iload (j := 5) dL_law_379 rfl ?_
  refine aw_iconst (v := 1) dL_law_381 (by decide) ?_
  refine aw_iadd dL_law_382 ?_
  obtain ⟨hi, h⟩ := h
  refine aw_sld dL_law_383 hi ?_
  refine aw_aload_n (j := 1) dL_law_384 rfl rfl ?_
  refine aw_iload (j := 5) dL_law_385 rfl ?_
  refine aw_iconst (v := 2) dL_law_387 (by decide) ?_
  refine aw_iadd dL_law_388 ?_
  obtain ⟨hi, h⟩ := h
  refine aw_sld dL_law_389 hi ?_
  refine aw_callV (rest := []) [.int (xs (x4 + (1 : Int32)).toNatClampNeg), .int (xs (x4 + (2 : Int32)).toNatClampNeg)] dL_law_390 ly_187 rfl k_L_55 rfl h (Nat.le_of_ble_eq_true rfl) (fun v m3 h => ?_)
  obtain ⟨v4, rfl, h⟩ := h
  refine aw_eq (L' := [(5, .int v2), (0, .ref sb), (1, .ref (ad 0)), (2, .ref (ad 187)), (3, .ref (ad 217)), (4, .int x4)]) (st' := [.int v4]) (m' := m3) ?_ rfl rfl rfl
  refine aw_istore (L' := [(6, .int v4), (5, .int v2), (0, .ref sb), (1, .ref (ad 0)), (2, .ref (ad 187)), (3, .ref (ad 217)), (4, .int x4)]) dL_law_393 (by decide) rfl ?_
  refine aw_goto (tgt := 1522) dL_law_395 (by decide) ?_
  refine aw_iinc (j := 6) (v := x4 + (6 : Int32)) (L' := [(4, .int (x4 + (6 : Int32))), (6, .int v4), (5, .int v2), (0, .ref sb), (1, .ref (ad 0)), (2, .ref (ad 187)), (3, .ref (ad 217))]) dL_law_1522 rfl rfl (by decide) rfl ?_
  refine aw_goto (tgt := 23) dL_law_1525 (by decide) ?_
  exact aw_sub [3, 4, 5, 6, 0] rfl h
set_option maxRecDepth 100000 in
set_option maxHeartbeats 4000000 in
theorem g_L_law_398 {ad : Nat → Nat} {sb Ls kc ks : Nat} {xs : Nat → Int32} {d : Nat} {Q : Option Value → Wm → Prop} {m : Wm} {x4 : Int32} (h : (vp_in (x4 + (1 : Int32)) Ls ∧ (vp_in (x4 + (2 : Int32)) Ls ∧ (Ct ad μX11_law d [.ref (ad 0), .int (xs (x4 + (1 : Int32)).toNatClampNeg), .int (xs (x4 + (2 : Int32)).toNatClampNeg)] m (fun r m1 => ∃ v2 : Int32, r = some (.int v2) ∧ (vp_in (x4 + (1 : Int32)) Ls ∧ (vp_in (x4 + (2 : Int32)) Ls ∧ (Ct ad μX12_law d [.ref (ad 187), .int (xs (x4 + (1 : Int32)).toNatClampNeg), .int (xs (x4 + (2 : Int32)).toNatClampNeg)] m1 (fun r m3 => ∃ v4 : Int32, r = some (.int v4) ∧ AWl LAY ad (EX (SX sb Ls xs) kc ks LAY) μL_law (d + 1) Q 23 [(0, .ref sb), (1, .ref (ad 0)), (2, .ref (ad 187)), (3, .ref (ad 217)), (4, .int (x4 + (6 : Int32)))] [] m3))))))))) : AWl LAY ad (EX (SX sb Ls xs) (kc + 1) (ks + 6) LAY) μL_law (d + 1) Q 398 [(0, .ref sb), (1, .ref (ad 0)), (2, .ref (ad 187)), (3, .ref (ad 217)), (4, .int x4)] [] m := by
  refine aw_aload_n (j := 1) dL_law_398 rfl rfl ?_
  refine aw_aload_n (j := 0) dL_law_399 rfl rfl ?_
  refine aw_iload (j := 4) dL_law_400 rfl ?_
  refine aw_iconst (v := 1) dL_law_402 (by decide) ?_
  refine aw_iadd dL_law_403 ?_
  obtain ⟨hi, h⟩ := h
  refine aw_sld dL_law_404 hi ?_
  refine aw_aload_n (j := 0) dL_law_405 rfl rfl ?_
  refine aw_iload (j := 4) dL_law_406 rfl ?_
  refine aw_iconst (v := 2) dL_law_408 (by decide) ?_
  refine aw_iadd dL_law_409 ?_
  obtain ⟨hi, h⟩ := h
  refine aw_sld dL_law_410 hi ?_
  refine aw_callV (rest := []) [.int (xs (x4 + (1 : Int32)).toNatClampNeg), .int (xs (x4 + (2 : Int32)).toNatClampNeg)] dL_law_411 ly_0 rfl k_L_56 rfl h (Nat.le_of_ble_eq_true rfl) (fun v m1 h => ?_)
  obtain ⟨v2, rfl, h⟩ := h
  refine aw_eq (L' := [(0, .ref sb), (1, .ref (ad 0)), (2, .ref (ad 187)), (3, .ref (ad 217)), (4, .int x4)]) (st' := [.int v2]) (m' := m1) ?_ rfl rfl rfl
  refine aw_pop dL_law_414 rfl ?_
  refine aw_aload_n (j := 2) dL_law_415 rfl rfl ?_
  refine aw_aload_n (j := 0) dL_law_416 rfl rfl ?_
  refine aw_iload (j := 4) dL_law_417 rfl ?_
  refine aw_iconst (v := 1) dL_law_419 (by decide) ?_
  refine aw_iadd dL_law_420 ?_
  obtain ⟨hi, h⟩ := h
  refine aw_sld dL_law_421 hi ?_
  refine aw_aload_n (j := 0) dL_law_422 rfl rfl ?_
  refine aw_iload (j := 4) dL_law_423 rfl ?_
  refine aw_iconst (v := 2) dL_law_425 (by decide) ?_
  refine aw_iadd dL_law_426 ?_
  obtain ⟨hi, h⟩ := h
  refine aw_sld dL_law_427 hi ?_
  refine aw_callV (rest := []) [.int (xs (x4 + (1 : Int32)).toNatClampNeg), .int (xs (x4 + (2 : Int32)).toNatClampNeg)] dL_law_428 ly_187 rfl k_L_59 rfl h (Nat.le_of_ble_eq_true rfl) (fun v m3 h => ?_)
  obtain ⟨v4, rfl, h⟩ := h
  refine aw_eq (L' := [(0, .ref sb), (1, .ref (ad 0)), (2, .ref (ad 187)), (3, .ref (ad 217)), (4, .int x4)]) (st' := [.int v4]) (m' := m3) ?_ rfl rfl rfl
  refine aw_pop dL_law_431 rfl ?_
  refine aw_goto (tgt := 1522) dL_law_432 (by decide) ?_
  refine aw_iinc (j := 4) (v := x4 + (6 : Int32)) (L' := [(4, .int (x4 + (6 : Int32))), (0, .ref sb), (1, .ref (ad 0)), (2, .ref (ad 187)), (3, .ref (ad 217))]) dL_law_1522 rfl rfl (by decide) rfl ?_
  refine aw_goto (tgt := 23) dL_law_1525 (by decide) ?_
  exact aw_drop (Nat.le_succ _) (Nat.le_add_right _ _) (aw_sub [1, 2, 3, 4, 0] rfl h)
set_option maxRecDepth 100000 in
set_option maxHeartbeats 4000000 in
theorem g_L_law_435 {ad : Nat → Nat} {sb Ls kc ks : Nat} {xs : Nat → Int32} {d : Nat} {Q : Option Value → Wm → Prop} {m : Wm} {x4 : Int32} (h : (vp_in (x4 + (1 : Int32)) Ls ∧ (vp_in (x4 + (2 : Int32)) Ls ∧ (vp_in (x4 + (3 : Int32)) Ls ∧ (vp_in (x4 + (4 : Int32)) Ls ∧ (vp_in (x4 + (5 : Int32)) Ls ∧ (Ct ad μX11_sheet d [.ref (ad 0), .int (xs (x4 + (1 : Int32)).toNatClampNeg), .int (xs (x4 + (2 : Int32)).toNatClampNeg), .int (xs (x4 + (3 : Int32)).toNatClampNeg), .int (xs (x4 + (4 : Int32)).toNatClampNeg), .int (xs (x4 + (5 : Int32)).toNatClampNeg)] m (fun r m1 => ∃ v2 : Int32, r = some (.int v2) ∧ (vp_in (x4 + (1 : Int32)) Ls ∧ (vp_in (x4 + (2 : Int32)) Ls ∧ (vp_in (x4 + (3 : Int32)) Ls ∧ (vp_in (x4 + (4 : Int32)) Ls ∧ (vp_in (x4 + (5 : Int32)) Ls ∧ (Ct ad μX12_sheet d [.ref (ad 187), .int (xs (x4 + (1 : Int32)).toNatClampNeg), .int (xs (x4 + (2 : Int32)).toNatClampNeg), .int (xs (x4 + (3 : Int32)).toNatClampNeg), .int (xs (x4 + (4 : Int32)).toNatClampNeg), .int (xs (x4 + (5 : Int32)).toNatClampNeg)] m1 (fun r m3 => ∃ v4 : Int32, r = some (.int v4) ∧ AWl LAY ad (EX (SX sb Ls xs) kc ks LAY) μL_law (d + 1) Q 23 [(0, .ref sb), (1, .ref (ad 0)), (2, .ref (ad 187)), (3, .ref (ad 217)), (4, .int (x4 + (6 : Int32)))] [] m3))))))))))))))) : AWl LAY ad (EX (SX sb Ls xs) (kc + 1) (ks + 6) LAY) μL_law (d + 1) Q 435 [(0, .ref sb), (1, .ref (ad 0)), (2, .ref (ad 187)), (3, .ref (ad 217)), (4, .int x4)] [] m := by
  refine aw_aload_n (j := 1) dL_law_435 rfl rfl ?_
  refine aw_aload_n (j := 0) dL_law_436 rfl rfl ?_
  refine aw_iload (j := 4) dL_law_437 rfl ?_
  refine aw_iconst (v := 1) dL_law_439 (by decide) ?_
  refine aw_iadd dL_law_440 ?_
  obtain ⟨hi, h⟩ := h
  refine aw_sld dL_law_441 hi ?_
  refine aw_aload_n (j := 0) dL_law_442 rfl rfl ?_
  refine aw_iload (j := 4) dL_law_443 rfl ?_
  refine aw_iconst (v := 2) dL_law_445 (by decide) ?_
  refine aw_iadd dL_law_446 ?_
  obtain ⟨hi, h⟩ := h
  refine aw_sld dL_law_447 hi ?_
  refine aw_aload_n (j := 0) dL_law_448 rfl rfl ?_
  refine aw_iload (j := 4) dL_law_449 rfl ?_
  refine aw_iconst (v := 3) dL_law_451 (by decide) ?_
  refine aw_iadd dL_law_452 ?_
  obtain ⟨hi, h⟩ := h
  refine aw_sld dL_law_453 hi ?_
  refine aw_aload_n (j := 0) dL_law_454 rfl rfl ?_
  refine aw_iload (j := 4) dL_law_455 rfl ?_
  refine aw_iconst (v := 4) dL_law_457 (by decide) ?_
  refine aw_iadd dL_law_458 ?_
  obtain ⟨hi, h⟩ := h
  refine aw_sld dL_law_459 hi ?_
  refine aw_aload_n (j := 0) dL_law_460 rfl rfl ?_
  refine aw_iload (j := 4) dL_law_461 rfl ?_
  refine aw_iconst (v := 5) dL_law_463 (by decide) ?_
  refine aw_iadd dL_law_464 ?_
  obtain ⟨hi, h⟩ := h
  refine aw_sld dL_law_465 hi ?_
  refine aw_callV (rest := []) [.int (xs (x4 + (1 : Int32)).toNatClampNeg), .int (xs (x4 + (2 : Int32)).toNatClampNeg), .int (xs (x4 + (3 : Int32)).toNatClampNeg), .int (xs (x4 + (4 : Int32)).toNatClampNeg), .int (xs (x4 + (5 : Int32)).toNatClampNeg)] dL_law_466 ly_0 rfl k_L_60 rfl h (Nat.le_of_ble_eq_true rfl) (fun v m1 h => ?_)
  obtain ⟨v2, rfl, h⟩ := h
  refine aw_eq (L' := [(0, .ref sb), (1, .ref (ad 0)), (2, .ref (ad 187)), (3, .ref (ad 217)), (4, .int x4)]) (st' := [.int v2]) (m' := m1) ?_ rfl rfl rfl
  refine aw_pop dL_law_469 rfl ?_
  refine aw_aload_n (j := 2) dL_law_470 rfl rfl ?_
  refine aw_aload_n (j := 0) dL_law_471 rfl rfl ?_
  refine aw_iload (j := 4) dL_law_472 rfl ?_
  refine aw_iconst (v := 1) dL_law_474 (by decide) ?_
  refine aw_iadd dL_law_475 ?_
  obtain ⟨hi, h⟩ := h
  refine aw_sld dL_law_476 hi ?_
  refine aw_aload_n (j := 0) dL_law_477 rfl rfl ?_
  refine aw_iload (j := 4) dL_law_478 rfl ?_
  refine aw_iconst (v := 2) dL_law_480 (by decide) ?_
  refine aw_iadd dL_law_481 ?_
  obtain ⟨hi, h⟩ := h
  refine aw_sld dL_law_482 hi ?_
  refine aw_aload_n (j := 0) dL_law_483 rfl rfl ?_
  refine aw_iload (j := 4) dL_law_484 rfl ?_
  refine aw_iconst (v := 3) dL_law_486 (by decide) ?_
  refine aw_iadd dL_law_487 ?_
  obtain ⟨hi, h⟩ := h
  refine aw_sld dL_law_488 hi ?_
  refine aw_aload_n (j := 0) dL_law_489 rfl rfl ?_
  refine aw_iload (j := 4) dL_law_490 rfl ?_
  refine aw_iconst (v := 4) dL_law_492 (by decide) ?_
  refine aw_iadd dL_law_493 ?_
  obtain ⟨hi, h⟩ := h
  refine aw_sld dL_law_494 hi ?_
  refine aw_aload_n (j := 0) dL_law_495 rfl rfl ?_
  refine aw_iload (j := 4) dL_law_496 rfl ?_
  refine aw_iconst (v := 5) dL_law_498 (by decide) ?_
  refine aw_iadd dL_law_499 ?_
  obtain ⟨hi, h⟩ := h
  refine aw_sld dL_law_500 hi ?_
  refine aw_callV (rest := []) [.int (xs (x4 + (1 : Int32)).toNatClampNeg), .int (xs (x4 + (2 : Int32)).toNatClampNeg), .int (xs (x4 + (3 : Int32)).toNatClampNeg), .int (xs (x4 + (4 : Int32)).toNatClampNeg), .int (xs (x4 + (5 : Int32)).toNatClampNeg)] dL_law_501 ly_187 rfl k_L_64 rfl h (Nat.le_of_ble_eq_true rfl) (fun v m3 h => ?_)
  obtain ⟨v4, rfl, h⟩ := h
  refine aw_eq (L' := [(0, .ref sb), (1, .ref (ad 0)), (2, .ref (ad 187)), (3, .ref (ad 217)), (4, .int x4)]) (st' := [.int v4]) (m' := m3) ?_ rfl rfl rfl
  refine aw_pop dL_law_504 rfl ?_
  refine aw_goto (tgt := 1522) dL_law_505 (by decide) ?_
  refine aw_iinc (j := 4) (v := x4 + (6 : Int32)) (L' := [(4, .int (x4 + (6 : Int32))), (0, .ref sb), (1, .ref (ad 0)), (2, .ref (ad 187)), (3, .ref (ad 217))]) dL_law_1522 rfl rfl (by decide) rfl ?_
  refine aw_goto (tgt := 23) dL_law_1525 (by decide) ?_
  exact aw_drop (Nat.le_succ _) (Nat.le_add_right _ _) (aw_sub [1, 2, 3, 4, 0] rfl h)
set_option maxRecDepth 100000 in
set_option maxHeartbeats 4000000 in
theorem g_L_law_508 {ad : Nat → Nat} {sb Ls kc ks : Nat} {xs : Nat → Int32} {d : Nat} {Q : Option Value → Wm → Prop} {m : Wm} {x4 : Int32} (h : (vp_in (x4 + (1 : Int32)) Ls ∧ (vp_in (x4 + (2 : Int32)) Ls ∧ (((xs (x4 + (2 : Int32)).toNatClampNeg) = 0 → (Ct ad μX11_ill d [.ref (ad 0), .int (xs (x4 + (1 : Int32)).toNatClampNeg), .int (0 : Int32)] m (fun r m1 => ∃ v2 : Int32, r = some (.int v2) ∧ (vp_in (x4 + (1 : Int32)) Ls ∧ (vp_in (x4 + (2 : Int32)) Ls ∧ (((xs (x4 + (2 : Int32)).toNatClampNeg) = 0 → (Ct ad μX12_ill d [.ref (ad 187), .int (xs (x4 + (1 : Int32)).toNatClampNeg), .int (0 : Int32)] m1 (fun r m3 => ∃ v4 : Int32, r = some (.int v4) ∧ AWl LAY ad (EX (SX sb Ls xs) kc ks LAY) μL_law (d + 1) Q 23 [(0, .ref sb), (1, .ref (ad 0)), (2, .ref (ad 187)), (3, .ref (ad 217)), (4, .int (x4 + (6 : Int32)))] [] m3))) ∧ (¬ (xs (x4 + (2 : Int32)).toNatClampNeg) = 0 → (Ct ad μX12_ill d [.ref (ad 187), .int (xs (x4 + (1 : Int32)).toNatClampNeg), .int (1 : Int32)] m1 (fun r m5 => ∃ v6 : Int32, r = some (.int v6) ∧ AWl LAY ad (EX (SX sb Ls xs) kc ks LAY) μL_law (d + 1) Q 23 [(0, .ref sb), (1, .ref (ad 0)), (2, .ref (ad 187)), (3, .ref (ad 217)), (4, .int (x4 + (6 : Int32)))] [] m5))))))))) ∧ (¬ (xs (x4 + (2 : Int32)).toNatClampNeg) = 0 → (Ct ad μX11_ill d [.ref (ad 0), .int (xs (x4 + (1 : Int32)).toNatClampNeg), .int (1 : Int32)] m (fun r m7 => ∃ v8 : Int32, r = some (.int v8) ∧ (vp_in (x4 + (1 : Int32)) Ls ∧ (vp_in (x4 + (2 : Int32)) Ls ∧ (((xs (x4 + (2 : Int32)).toNatClampNeg) = 0 → (Ct ad μX12_ill d [.ref (ad 187), .int (xs (x4 + (1 : Int32)).toNatClampNeg), .int (0 : Int32)] m7 (fun r m9 => ∃ v10 : Int32, r = some (.int v10) ∧ AWl LAY ad (EX (SX sb Ls xs) kc ks LAY) μL_law (d + 1) Q 23 [(0, .ref sb), (1, .ref (ad 0)), (2, .ref (ad 187)), (3, .ref (ad 217)), (4, .int (x4 + (6 : Int32)))] [] m9))) ∧ (¬ (xs (x4 + (2 : Int32)).toNatClampNeg) = 0 → (Ct ad μX12_ill d [.ref (ad 187), .int (xs (x4 + (1 : Int32)).toNatClampNeg), .int (1 : Int32)] m7 (fun r m11 => ∃ v12 : Int32, r = some (.int v12) ∧ AWl LAY ad (EX (SX sb Ls xs) kc ks LAY) μL_law (d + 1) Q 23 [(0, .ref sb), (1, .ref (ad 0)), (2, .ref (ad 187)), (3, .ref (ad 217)), (4, .int (x4 + (6 : Int32)))] [] m11))))))))))))) : AWl LAY ad (EX (SX sb Ls xs) (kc + 1) (ks + 6) LAY) μL_law (d + 1) Q 508 [(0, .ref sb), (1, .ref (ad 0)), (2, .ref (ad 187)), (3, .ref (ad 217)), (4, .int x4)] [] m := by
  refine aw_aload_n (j := 1) dL_law_508 rfl rfl ?_
  refine aw_aload_n (j := 0) dL_law_509 rfl rfl ?_
  refine aw_iload (j := 4) dL_law_510 rfl ?_
  refine aw_iconst (v := 1) dL_law_512 (by decide) ?_
  refine aw_iadd dL_law_513 ?_
  obtain ⟨hi, h⟩ := h
  refine aw_sld dL_law_514 hi ?_
  refine aw_aload_n (j := 0) dL_law_515 rfl rfl ?_
  refine aw_iload (j := 4) dL_law_516 rfl ?_
  refine aw_iconst (v := 2) dL_law_518 (by decide) ?_
  refine aw_iadd dL_law_519 ?_
  obtain ⟨hi, h⟩ := h
  refine aw_sld dL_law_520 hi ?_
  refine aw_if_eq (tgt := 528) dL_law_521 (by decide) (fun hc => ?_) (fun hc => ?_)
  · have h := h.1 hc
    refine aw_iconst (v := 0) dL_law_528 (by decide) ?_
    refine aw_callV (rest := []) [.int (xs (x4 + (1 : Int32)).toNatClampNeg), .int (0 : Int32)] dL_law_529 ly_0 rfl k_L_65 rfl h (Nat.le_of_ble_eq_true rfl) (fun v m1 h => ?_)
    obtain ⟨v2, rfl, h⟩ := h
    refine aw_eq (L' := [(0, .ref sb), (1, .ref (ad 0)), (2, .ref (ad 187)), (3, .ref (ad 217)), (4, .int x4)]) (st' := [.int v2]) (m' := m1) ?_ rfl rfl rfl
    refine aw_pop dL_law_532 rfl ?_
    refine aw_aload_n (j := 2) dL_law_533 rfl rfl ?_
    refine aw_aload_n (j := 0) dL_law_534 rfl rfl ?_
    refine aw_iload (j := 4) dL_law_535 rfl ?_
    refine aw_iconst (v := 1) dL_law_537 (by decide) ?_
    refine aw_iadd dL_law_538 ?_
    obtain ⟨hi, h⟩ := h
    refine aw_sld dL_law_539 hi ?_
    refine aw_aload_n (j := 0) dL_law_540 rfl rfl ?_
    refine aw_iload (j := 4) dL_law_541 rfl ?_
    refine aw_iconst (v := 2) dL_law_543 (by decide) ?_
    refine aw_iadd dL_law_544 ?_
    obtain ⟨hi, h⟩ := h
    refine aw_sld dL_law_545 hi ?_
    refine aw_if_eq (tgt := 553) dL_law_546 (by decide) (fun hc => ?_) (fun hc => ?_)
    · have h := h.1 hc
      refine aw_iconst (v := 0) dL_law_553 (by decide) ?_
      refine aw_callV (rest := []) [.int (xs (x4 + (1 : Int32)).toNatClampNeg), .int (0 : Int32)] dL_law_554 ly_187 rfl k_L_69 rfl h (Nat.le_of_ble_eq_true rfl) (fun v m3 h => ?_)
      obtain ⟨v4, rfl, h⟩ := h
      refine aw_eq (L' := [(0, .ref sb), (1, .ref (ad 0)), (2, .ref (ad 187)), (3, .ref (ad 217)), (4, .int x4)]) (st' := [.int v4]) (m' := m3) ?_ rfl rfl rfl
      refine aw_pop dL_law_557 rfl ?_
      refine aw_goto (tgt := 1522) dL_law_558 (by decide) ?_
      refine aw_iinc (j := 4) (v := x4 + (6 : Int32)) (L' := [(4, .int (x4 + (6 : Int32))), (0, .ref sb), (1, .ref (ad 0)), (2, .ref (ad 187)), (3, .ref (ad 217))]) dL_law_1522 rfl rfl (by decide) rfl ?_
      refine aw_goto (tgt := 23) dL_law_1525 (by decide) ?_
      exact aw_drop (Nat.le_succ _) (Nat.le_add_right _ _) (aw_sub [1, 2, 3, 4, 0] rfl h)
    · have h := h.2 hc
      refine aw_iconst (v := 1) dL_law_549 (by decide) ?_
      refine aw_goto (tgt := 554) dL_law_550 (by decide) ?_
      refine aw_callV (rest := []) [.int (xs (x4 + (1 : Int32)).toNatClampNeg), .int (1 : Int32)] dL_law_554 ly_187 rfl k_L_69 rfl h (Nat.le_of_ble_eq_true rfl) (fun v m5 h => ?_)
      obtain ⟨v6, rfl, h⟩ := h
      refine aw_eq (L' := [(0, .ref sb), (1, .ref (ad 0)), (2, .ref (ad 187)), (3, .ref (ad 217)), (4, .int x4)]) (st' := [.int v6]) (m' := m5) ?_ rfl rfl rfl
      refine aw_pop dL_law_557 rfl ?_
      refine aw_goto (tgt := 1522) dL_law_558 (by decide) ?_
      refine aw_iinc (j := 4) (v := x4 + (6 : Int32)) (L' := [(4, .int (x4 + (6 : Int32))), (0, .ref sb), (1, .ref (ad 0)), (2, .ref (ad 187)), (3, .ref (ad 217))]) dL_law_1522 rfl rfl (by decide) rfl ?_
      refine aw_goto (tgt := 23) dL_law_1525 (by decide) ?_
      exact aw_drop (Nat.le_succ _) (Nat.le_add_right _ _) (aw_sub [1, 2, 3, 4, 0] rfl h)
  · have h := h.2 hc
    refine aw_iconst (v := 1) dL_law_524 (by decide) ?_
    refine aw_goto (tgt := 529) dL_law_525 (by decide) ?_
    refine aw_callV (rest := []) [.int (xs (x4 + (1 : Int32)).toNatClampNeg), .int (1 : Int32)] dL_law_529 ly_0 rfl k_L_65 rfl h (Nat.le_of_ble_eq_true rfl) (fun v m7 h => ?_)
    obtain ⟨v8, rfl, h⟩ := h
    refine aw_eq (L' := [(0, .ref sb), (1, .ref (ad 0)), (2, .ref (ad 187)), (3, .ref (ad 217)), (4, .int x4)]) (st' := [.int v8]) (m' := m7) ?_ rfl rfl rfl
    refine aw_pop dL_law_532 rfl ?_
    refine aw_aload_n (j := 2) dL_law_533 rfl rfl ?_
    refine aw_aload_n (j := 0) dL_law_534 rfl rfl ?_
    refine aw_iload (j := 4) dL_law_535 rfl ?_
    refine aw_iconst (v := 1) dL_law_537 (by decide) ?_
    refine aw_iadd dL_law_538 ?_
    obtain ⟨hi, h⟩ := h
    refine aw_sld dL_law_539 hi ?_
    refine aw_aload_n (j := 0) dL_law_540 rfl rfl ?_
    refine aw_iload (j := 4) dL_law_541 rfl ?_
    refine aw_iconst (v := 2) dL_law_543 (by decide) ?_
    refine aw_iadd dL_law_544 ?_
    obtain ⟨hi, h⟩ := h
    refine aw_sld dL_law_545 hi ?_
    refine aw_if_eq (tgt := 553) dL_law_546 (by decide) (fun hc => ?_) (fun hc => ?_)
    · have h := h.1 hc
      refine aw_iconst (v := 0) dL_law_553 (by decide) ?_
      refine aw_callV (rest := []) [.int (xs (x4 + (1 : Int32)).toNatClampNeg), .int (0 : Int32)] dL_law_554 ly_187 rfl k_L_69 rfl h (Nat.le_of_ble_eq_true rfl) (fun v m9 h => ?_)
      obtain ⟨v10, rfl, h⟩ := h
      refine aw_eq (L' := [(0, .ref sb), (1, .ref (ad 0)), (2, .ref (ad 187)), (3, .ref (ad 217)), (4, .int x4)]) (st' := [.int v10]) (m' := m9) ?_ rfl rfl rfl
      refine aw_pop dL_law_557 rfl ?_
      refine aw_goto (tgt := 1522) dL_law_558 (by decide) ?_
      refine aw_iinc (j := 4) (v := x4 + (6 : Int32)) (L' := [(4, .int (x4 + (6 : Int32))), (0, .ref sb), (1, .ref (ad 0)), (2, .ref (ad 187)), (3, .ref (ad 217))]) dL_law_1522 rfl rfl (by decide) rfl ?_
      refine aw_goto (tgt := 23) dL_law_1525 (by decide) ?_
      exact aw_drop (Nat.le_succ _) (Nat.le_add_right _ _) (aw_sub [1, 2, 3, 4, 0] rfl h)
    · have h := h.2 hc
      refine aw_iconst (v := 1) dL_law_549 (by decide) ?_
      refine aw_goto (tgt := 554) dL_law_550 (by decide) ?_
      refine aw_callV (rest := []) [.int (xs (x4 + (1 : Int32)).toNatClampNeg), .int (1 : Int32)] dL_law_554 ly_187 rfl k_L_69 rfl h (Nat.le_of_ble_eq_true rfl) (fun v m11 h => ?_)
      obtain ⟨v12, rfl, h⟩ := h
      refine aw_eq (L' := [(0, .ref sb), (1, .ref (ad 0)), (2, .ref (ad 187)), (3, .ref (ad 217)), (4, .int x4)]) (st' := [.int v12]) (m' := m11) ?_ rfl rfl rfl
      refine aw_pop dL_law_557 rfl ?_
      refine aw_goto (tgt := 1522) dL_law_558 (by decide) ?_
      refine aw_iinc (j := 4) (v := x4 + (6 : Int32)) (L' := [(4, .int (x4 + (6 : Int32))), (0, .ref sb), (1, .ref (ad 0)), (2, .ref (ad 187)), (3, .ref (ad 217))]) dL_law_1522 rfl rfl (by decide) rfl ?_
      refine aw_goto (tgt := 23) dL_law_1525 (by decide) ?_
      exact aw_drop (Nat.le_succ _) (Nat.le_add_right _ _) (aw_sub [1, 2, 3, 4, 0] rfl h)
set_option maxRecDepth 100000 in
set_option maxHeartbeats 4000000 in
theorem g_L_law_561 {ad : Nat → Nat} {sb Ls kc ks : Nat} {xs : Nat → Int32} {d : Nat} {Q : Option Value → Wm → Prop} {m : Wm} {x4 : Int32} (h : (vp_in (x4 + (1 : Int32)) Ls ∧ (vp_in (x4 + (2 : Int32)) Ls ∧ (Ct ad μX11_swap d [.ref (ad 0), .int (xs (x4 + (1 : Int32)).toNatClampNeg), .int (xs (x4 + (2 : Int32)).toNatClampNeg)] m (fun r m1 => ∃ v2 : Int32, r = some (.int v2) ∧ (vp_in (x4 + (1 : Int32)) Ls ∧ (vp_in (x4 + (2 : Int32)) Ls ∧ (Ct ad μX12_swap d [.ref (ad 187), .int (xs (x4 + (1 : Int32)).toNatClampNeg), .int (xs (x4 + (2 : Int32)).toNatClampNeg)] m1 (fun r m3 => ∃ v4 : Int32, r = some (.int v4) ∧ AWl LAY ad (EX (SX sb Ls xs) kc ks LAY) μL_law (d + 1) Q 23 [(0, .ref sb), (1, .ref (ad 0)), (2, .ref (ad 187)), (3, .ref (ad 217)), (4, .int (x4 + (6 : Int32)))] [] m3))))))))) : AWl LAY ad (EX (SX sb Ls xs) (kc + 1) (ks + 6) LAY) μL_law (d + 1) Q 561 [(0, .ref sb), (1, .ref (ad 0)), (2, .ref (ad 187)), (3, .ref (ad 217)), (4, .int x4)] [] m := by
  refine aw_aload_n (j := 1) dL_law_561 rfl rfl ?_
  refine aw_aload_n (j := 0) dL_law_562 rfl rfl ?_
  refine aw_iload (j := 4) dL_law_563 rfl ?_
  refine aw_iconst (v := 1) dL_law_565 (by decide) ?_
  refine aw_iadd dL_law_566 ?_
  obtain ⟨hi, h⟩ := h
  refine aw_sld dL_law_567 hi ?_
  refine aw_aload_n (j := 0) dL_law_568 rfl rfl ?_
  refine aw_iload (j := 4) dL_law_569 rfl ?_
  refine aw_iconst (v := 2) dL_law_571 (by decide) ?_
  refine aw_iadd dL_law_572 ?_
  obtain ⟨hi, h⟩ := h
  refine aw_sld dL_law_573 hi ?_
  refine aw_callV (rest := []) [.int (xs (x4 + (1 : Int32)).toNatClampNeg), .int (xs (x4 + (2 : Int32)).toNatClampNeg)] dL_law_574 ly_0 rfl k_L_70 rfl h (Nat.le_of_ble_eq_true rfl) (fun v m1 h => ?_)
  obtain ⟨v2, rfl, h⟩ := h
  refine aw_eq (L' := [(0, .ref sb), (1, .ref (ad 0)), (2, .ref (ad 187)), (3, .ref (ad 217)), (4, .int x4)]) (st' := [.int v2]) (m' := m1) ?_ rfl rfl rfl
  refine aw_pop dL_law_577 rfl ?_
  refine aw_aload_n (j := 2) dL_law_578 rfl rfl ?_
  refine aw_aload_n (j := 0) dL_law_579 rfl rfl ?_
  refine aw_iload (j := 4) dL_law_580 rfl ?_
  refine aw_iconst (v := 1) dL_law_582 (by decide) ?_
  refine aw_iadd dL_law_583 ?_
  obtain ⟨hi, h⟩ := h
  refine aw_sld dL_law_584 hi ?_
  refine aw_aload_n (j := 0) dL_law_585 rfl rfl ?_
  refine aw_iload (j := 4) dL_law_586 rfl ?_
  refine aw_iconst (v := 2) dL_law_588 (by decide) ?_
  refine aw_iadd dL_law_589 ?_
  obtain ⟨hi, h⟩ := h
  refine aw_sld dL_law_590 hi ?_
  refine aw_callV (rest := []) [.int (xs (x4 + (1 : Int32)).toNatClampNeg), .int (xs (x4 + (2 : Int32)).toNatClampNeg)] dL_law_591 ly_187 rfl k_L_74 rfl h (Nat.le_of_ble_eq_true rfl) (fun v m3 h => ?_)
  obtain ⟨v4, rfl, h⟩ := h
  refine aw_eq (L' := [(0, .ref sb), (1, .ref (ad 0)), (2, .ref (ad 187)), (3, .ref (ad 217)), (4, .int x4)]) (st' := [.int v4]) (m' := m3) ?_ rfl rfl rfl
  refine aw_pop dL_law_594 rfl ?_
  refine aw_goto (tgt := 1522) dL_law_595 (by decide) ?_
  refine aw_iinc (j := 4) (v := x4 + (6 : Int32)) (L' := [(4, .int (x4 + (6 : Int32))), (0, .ref sb), (1, .ref (ad 0)), (2, .ref (ad 187)), (3, .ref (ad 217))]) dL_law_1522 rfl rfl (by decide) rfl ?_
  refine aw_goto (tgt := 23) dL_law_1525 (by decide) ?_
  exact aw_drop (Nat.le_succ _) (Nat.le_add_right _ _) (aw_sub [1, 2, 3, 4, 0] rfl h)
set_option maxRecDepth 100000 in
set_option maxHeartbeats 4000000 in
theorem g_L_law_598 {ad : Nat → Nat} {sb Ls kc ks : Nat} {xs : Nat → Int32} {d : Nat} {Q : Option Value → Wm → Prop} {m : Wm} {x4 : Int32} (h : (Ct ad μX11_circle d [.ref (ad 0)] m (fun r m1 => ∃ v2 : Int32, r = some (.int v2) ∧ (Ct ad μX12_circle d [.ref (ad 187)] m1 (fun r m3 => ∃ v4 : Int32, r = some (.int v4) ∧ AWl LAY ad (EX (SX sb Ls xs) kc ks LAY) μL_law (d + 1) Q 23 [(0, .ref sb), (1, .ref (ad 0)), (2, .ref (ad 187)), (3, .ref (ad 217)), (4, .int (x4 + (6 : Int32)))] [] m3))))) : AWl LAY ad (EX (SX sb Ls xs) (kc + 1) (ks + 6) LAY) μL_law (d + 1) Q 598 [(0, .ref sb), (1, .ref (ad 0)), (2, .ref (ad 187)), (3, .ref (ad 217)), (4, .int x4)] [] m := by
  refine aw_aload_n (j := 1) dL_law_598 rfl rfl ?_
  refine aw_callV (rest := []) [] dL_law_599 ly_0 rfl k_L_75 rfl h (Nat.le_of_ble_eq_true rfl) (fun v m1 h => ?_)
  obtain ⟨v2, rfl, h⟩ := h
  refine aw_eq (L' := [(0, .ref sb), (1, .ref (ad 0)), (2, .ref (ad 187)), (3, .ref (ad 217)), (4, .int x4)]) (st' := [.int v2]) (m' := m1) ?_ rfl rfl rfl
  refine aw_pop dL_law_602 rfl ?_
  refine aw_aload_n (j := 2) dL_law_603 rfl rfl ?_
  refine aw_callV (rest := []) [] dL_law_604 ly_187 rfl k_L_78 rfl h (Nat.le_of_ble_eq_true rfl) (fun v m3 h => ?_)
  obtain ⟨v4, rfl, h⟩ := h
  refine aw_eq (L' := [(0, .ref sb), (1, .ref (ad 0)), (2, .ref (ad 187)), (3, .ref (ad 217)), (4, .int x4)]) (st' := [.int v4]) (m' := m3) ?_ rfl rfl rfl
  refine aw_pop dL_law_607 rfl ?_
  refine aw_goto (tgt := 1522) dL_law_608 (by decide) ?_
  refine aw_iinc (j := 4) (v := x4 + (6 : Int32)) (L' := [(4, .int (x4 + (6 : Int32))), (0, .ref sb), (1, .ref (ad 0)), (2, .ref (ad 187)), (3, .ref (ad 217))]) dL_law_1522 rfl rfl (by decide) rfl ?_
  refine aw_goto (tgt := 23) dL_law_1525 (by decide) ?_
  exact aw_drop (Nat.le_succ _) (Nat.le_add_right _ _) (aw_sub [1, 2, 3, 4, 0] rfl h)
set_option maxRecDepth 100000 in
set_option maxHeartbeats 4000000 in
theorem g_L_law_611 {ad : Nat → Nat} {sb Ls kc ks : Nat} {xs : Nat → Int32} {d : Nat} {Q : Option Value → Wm → Prop} {m : Wm} {x4 : Int32} (h : (vp_in (x4 + (1 : Int32)) Ls ∧ (vp_in (x4 + (2 : Int32)) Ls ∧ (vp_in (x4 + (3 : Int32)) Ls ∧ (Ct ad μX11_game d [.ref (ad 0), .int (xs (x4 + (1 : Int32)).toNatClampNeg), .int (xs (x4 + (2 : Int32)).toNatClampNeg), .int (xs (x4 + (3 : Int32)).toNatClampNeg)] m (fun r m1 => ∃ v2 : Int32, r = some (.int v2) ∧ (vp_in (x4 + (1 : Int32)) Ls ∧ (vp_in (x4 + (2 : Int32)) Ls ∧ (vp_in (x4 + (3 : Int32)) Ls ∧ (Ct ad μX12_game d [.ref (ad 187), .int (xs (x4 + (1 : Int32)).toNatClampNeg), .int (xs (x4 + (2 : Int32)).toNatClampNeg), .int (xs (x4 + (3 : Int32)).toNatClampNeg)] m1 (fun r m3 => ∃ v4 : Int32, r = some (.int v4) ∧ AWl LAY ad (EX (SX sb Ls xs) kc ks LAY) μL_law (d + 1) Q 23 [(0, .ref sb), (1, .ref (ad 0)), (2, .ref (ad 187)), (3, .ref (ad 217)), (4, .int (x4 + (6 : Int32)))] [] m3))))))))))) : AWl LAY ad (EX (SX sb Ls xs) (kc + 1) (ks + 6) LAY) μL_law (d + 1) Q 611 [(0, .ref sb), (1, .ref (ad 0)), (2, .ref (ad 187)), (3, .ref (ad 217)), (4, .int x4)] [] m := by
  refine aw_aload_n (j := 1) dL_law_611 rfl rfl ?_
  refine aw_aload_n (j := 0) dL_law_612 rfl rfl ?_
  refine aw_iload (j := 4) dL_law_613 rfl ?_
  refine aw_iconst (v := 1) dL_law_615 (by decide) ?_
  refine aw_iadd dL_law_616 ?_
  obtain ⟨hi, h⟩ := h
  refine aw_sld dL_law_617 hi ?_
  refine aw_aload_n (j := 0) dL_law_618 rfl rfl ?_
  refine aw_iload (j := 4) dL_law_619 rfl ?_
  refine aw_iconst (v := 2) dL_law_621 (by decide) ?_
  refine aw_iadd dL_law_622 ?_
  obtain ⟨hi, h⟩ := h
  refine aw_sld dL_law_623 hi ?_
  refine aw_aload_n (j := 0) dL_law_624 rfl rfl ?_
  refine aw_iload (j := 4) dL_law_625 rfl ?_
  refine aw_iconst (v := 3) dL_law_627 (by decide) ?_
  refine aw_iadd dL_law_628 ?_
  obtain ⟨hi, h⟩ := h
  refine aw_sld dL_law_629 hi ?_
  refine aw_callV (rest := []) [.int (xs (x4 + (1 : Int32)).toNatClampNeg), .int (xs (x4 + (2 : Int32)).toNatClampNeg), .int (xs (x4 + (3 : Int32)).toNatClampNeg)] dL_law_630 ly_0 rfl k_L_79 rfl h (Nat.le_of_ble_eq_true rfl) (fun v m1 h => ?_)
  obtain ⟨v2, rfl, h⟩ := h
  refine aw_eq (L' := [(0, .ref sb), (1, .ref (ad 0)), (2, .ref (ad 187)), (3, .ref (ad 217)), (4, .int x4)]) (st' := [.int v2]) (m' := m1) ?_ rfl rfl rfl
  refine aw_pop dL_law_633 rfl ?_
  refine aw_aload_n (j := 2) dL_law_634 rfl rfl ?_
  refine aw_aload_n (j := 0) dL_law_635 rfl rfl ?_
  refine aw_iload (j := 4) dL_law_636 rfl ?_
  refine aw_iconst (v := 1) dL_law_638 (by decide) ?_
  refine aw_iadd dL_law_639 ?_
  obtain ⟨hi, h⟩ := h
  refine aw_sld dL_law_640 hi ?_
  refine aw_aload_n (j := 0) dL_law_641 rfl rfl ?_
  refine aw_iload (j := 4) dL_law_642 rfl ?_
  refine aw_iconst (v := 2) dL_law_644 (by decide) ?_
  refine aw_iadd dL_law_645 ?_
  obtain ⟨hi, h⟩ := h
  refine aw_sld dL_law_646 hi ?_
  refine aw_aload_n (j := 0) dL_law_647 rfl rfl ?_
  refine aw_iload (j := 4) dL_law_648 rfl ?_
  refine aw_iconst (v := 3) dL_law_650 (by decide) ?_
  refine aw_iadd dL_law_651 ?_
  obtain ⟨hi, h⟩ := h
  refine aw_sld dL_law_652 hi ?_
  refine aw_callV (rest := []) [.int (xs (x4 + (1 : Int32)).toNatClampNeg), .int (xs (x4 + (2 : Int32)).toNatClampNeg), .int (xs (x4 + (3 : Int32)).toNatClampNeg)] dL_law_653 ly_187 rfl k_L_83 rfl h (Nat.le_of_ble_eq_true rfl) (fun v m3 h => ?_)
  obtain ⟨v4, rfl, h⟩ := h
  refine aw_eq (L' := [(0, .ref sb), (1, .ref (ad 0)), (2, .ref (ad 187)), (3, .ref (ad 217)), (4, .int x4)]) (st' := [.int v4]) (m' := m3) ?_ rfl rfl rfl
  refine aw_pop dL_law_656 rfl ?_
  refine aw_goto (tgt := 1522) dL_law_657 (by decide) ?_
  refine aw_iinc (j := 4) (v := x4 + (6 : Int32)) (L' := [(4, .int (x4 + (6 : Int32))), (0, .ref sb), (1, .ref (ad 0)), (2, .ref (ad 187)), (3, .ref (ad 217))]) dL_law_1522 rfl rfl (by decide) rfl ?_
  refine aw_goto (tgt := 23) dL_law_1525 (by decide) ?_
  exact aw_drop (Nat.le_succ _) (Nat.le_add_right _ _) (aw_sub [1, 2, 3, 4, 0] rfl h)
set_option maxRecDepth 100000 in
set_option maxHeartbeats 4000000 in
theorem g_L_law_660 {ad : Nat → Nat} {sb Ls kc ks : Nat} {xs : Nat → Int32} {d : Nat} {Q : Option Value → Wm → Prop} {m : Wm} {x4 : Int32} (h : (vp_in (x4 + (1 : Int32)) Ls ∧ (vp_in (x4 + (2 : Int32)) Ls ∧ (Ct ad μX11_odds d [.ref (ad 0), .int (xs (x4 + (1 : Int32)).toNatClampNeg), .int (xs (x4 + (2 : Int32)).toNatClampNeg)] m (fun r m1 => ∃ v2 : Int32, r = some (.int v2) ∧ (vp_in (x4 + (1 : Int32)) Ls ∧ (vp_in (x4 + (2 : Int32)) Ls ∧ (Ct ad μX12_odds d [.ref (ad 187), .int (xs (x4 + (1 : Int32)).toNatClampNeg), .int (xs (x4 + (2 : Int32)).toNatClampNeg)] m1 (fun r m3 => ∃ v4 : Int32, r = some (.int v4) ∧ AWl LAY ad (EX (SX sb Ls xs) kc ks LAY) μL_law (d + 1) Q 23 [(0, .ref sb), (1, .ref (ad 0)), (2, .ref (ad 187)), (3, .ref (ad 217)), (4, .int (x4 + (6 : Int32)))] [] m3))))))))) : AWl LAY ad (EX (SX sb Ls xs) (kc + 1) (ks + 6) LAY) μL_law (d + 1) Q 660 [(0, .ref sb), (1, .ref (ad 0)), (2, .ref (ad 187)), (3, .ref (ad 217)), (4, .int x4)] [] m := by
  refine aw_aload_n (j := 1) dL_law_660 rfl rfl ?_
  refine aw_aload_n (j := 0) dL_law_661 rfl rfl ?_
  refine aw_iload (j := 4) dL_law_662 rfl ?_
  refine aw_iconst (v := 1) dL_law_664 (by decide) ?_
  refine aw_iadd dL_law_665 ?_
  obtain ⟨hi, h⟩ := h
  refine aw_sld dL_law_666 hi ?_
  refine aw_aload_n (j := 0) dL_law_667 rfl rfl ?_
  refine aw_iload (j := 4) dL_law_668 rfl ?_
  refine aw_iconst (v := 2) dL_law_670 (by decide) ?_
  refine aw_iadd dL_law_671 ?_
  obtain ⟨hi, h⟩ := h
  refine aw_sld dL_law_672 hi ?_
  refine aw_callV (rest := []) [.int (xs (x4 + (1 : Int32)).toNatClampNeg), .int (xs (x4 + (2 : Int32)).toNatClampNeg)] dL_law_673 ly_0 rfl k_L_84 rfl h (Nat.le_of_ble_eq_true rfl) (fun v m1 h => ?_)
  obtain ⟨v2, rfl, h⟩ := h
  refine aw_eq (L' := [(0, .ref sb), (1, .ref (ad 0)), (2, .ref (ad 187)), (3, .ref (ad 217)), (4, .int x4)]) (st' := [.int v2]) (m' := m1) ?_ rfl rfl rfl
  refine aw_pop dL_law_676 rfl ?_
  refine aw_aload_n (j := 2) dL_law_677 rfl rfl ?_
  refine aw_aload_n (j := 0) dL_law_678 rfl rfl ?_
  refine aw_iload (j := 4) dL_law_679 rfl ?_
  refine aw_iconst (v := 1) dL_law_681 (by decide) ?_
  refine aw_iadd dL_law_682 ?_
  obtain ⟨hi, h⟩ := h
  refine aw_sld dL_law_683 hi ?_
  refine aw_aload_n (j := 0) dL_law_684 rfl rfl ?_
  refine aw_iload (j := 4) dL_law_685 rfl ?_
  refine aw_iconst (v := 2) dL_law_687 (by decide) ?_
  refine aw_iadd dL_law_688 ?_
  obtain ⟨hi, h⟩ := h
  refine aw_sld dL_law_689 hi ?_
  refine aw_callV (rest := []) [.int (xs (x4 + (1 : Int32)).toNatClampNeg), .int (xs (x4 + (2 : Int32)).toNatClampNeg)] dL_law_690 ly_187 rfl k_L_87 rfl h (Nat.le_of_ble_eq_true rfl) (fun v m3 h => ?_)
  obtain ⟨v4, rfl, h⟩ := h
  refine aw_eq (L' := [(0, .ref sb), (1, .ref (ad 0)), (2, .ref (ad 187)), (3, .ref (ad 217)), (4, .int x4)]) (st' := [.int v4]) (m' := m3) ?_ rfl rfl rfl
  refine aw_pop dL_law_693 rfl ?_
  refine aw_goto (tgt := 1522) dL_law_694 (by decide) ?_
  refine aw_iinc (j := 4) (v := x4 + (6 : Int32)) (L' := [(4, .int (x4 + (6 : Int32))), (0, .ref sb), (1, .ref (ad 0)), (2, .ref (ad 187)), (3, .ref (ad 217))]) dL_law_1522 rfl rfl (by decide) rfl ?_
  refine aw_goto (tgt := 23) dL_law_1525 (by decide) ?_
  exact aw_drop (Nat.le_succ _) (Nat.le_add_right _ _) (aw_sub [1, 2, 3, 4, 0] rfl h)
set_option maxRecDepth 100000 in
set_option maxHeartbeats 4000000 in
theorem g_L_law_697 {ad : Nat → Nat} {sb Ls kc ks : Nat} {xs : Nat → Int32} {d : Nat} {Q : Option Value → Wm → Prop} {m : Wm} {x4 : Int32} (h : (vp_in (x4 + (1 : Int32)) Ls ∧ (vp_in (x4 + (2 : Int32)) Ls ∧ (vp_in (x4 + (3 : Int32)) Ls ∧ (Ct ad μX11_play d [.ref (ad 0), .int (xs (x4 + (1 : Int32)).toNatClampNeg), .int (xs (x4 + (2 : Int32)).toNatClampNeg), .int (xs (x4 + (3 : Int32)).toNatClampNeg)] m (fun r m1 => ∃ v2 : Int32, r = some (.int v2) ∧ (vp_in (x4 + (1 : Int32)) Ls ∧ (vp_in (x4 + (2 : Int32)) Ls ∧ (vp_in (x4 + (3 : Int32)) Ls ∧ (Ct ad μX12_play d [.ref (ad 187), .int (xs (x4 + (1 : Int32)).toNatClampNeg), .int (xs (x4 + (2 : Int32)).toNatClampNeg), .int (xs (x4 + (3 : Int32)).toNatClampNeg)] m1 (fun r m3 => ∃ v4 : Int32, r = some (.int v4) ∧ AWl LAY ad (EX (SX sb Ls xs) kc ks LAY) μL_law (d + 1) Q 23 [(0, .ref sb), (1, .ref (ad 0)), (2, .ref (ad 187)), (3, .ref (ad 217)), (4, .int (x4 + (6 : Int32)))] [] m3))))))))))) : AWl LAY ad (EX (SX sb Ls xs) (kc + 1) (ks + 6) LAY) μL_law (d + 1) Q 697 [(0, .ref sb), (1, .ref (ad 0)), (2, .ref (ad 187)), (3, .ref (ad 217)), (4, .int x4)] [] m := by
  refine aw_aload_n (j := 1) dL_law_697 rfl rfl ?_
  refine aw_aload_n (j := 0) dL_law_698 rfl rfl ?_
  refine aw_iload (j := 4) dL_law_699 rfl ?_
  refine aw_iconst (v := 1) dL_law_701 (by decide) ?_
  refine aw_iadd dL_law_702 ?_
  obtain ⟨hi, h⟩ := h
  refine aw_sld dL_law_703 hi ?_
  refine aw_aload_n (j := 0) dL_law_704 rfl rfl ?_
  refine aw_iload (j := 4) dL_law_705 rfl ?_
  refine aw_iconst (v := 2) dL_law_707 (by decide) ?_
  refine aw_iadd dL_law_708 ?_
  obtain ⟨hi, h⟩ := h
  refine aw_sld dL_law_709 hi ?_
  refine aw_aload_n (j := 0) dL_law_710 rfl rfl ?_
  refine aw_iload (j := 4) dL_law_711 rfl ?_
  refine aw_iconst (v := 3) dL_law_713 (by decide) ?_
  refine aw_iadd dL_law_714 ?_
  obtain ⟨hi, h⟩ := h
  refine aw_sld dL_law_715 hi ?_
  refine aw_callV (rest := []) [.int (xs (x4 + (1 : Int32)).toNatClampNeg), .int (xs (x4 + (2 : Int32)).toNatClampNeg), .int (xs (x4 + (3 : Int32)).toNatClampNeg)] dL_law_716 ly_0 rfl k_L_88 rfl h (Nat.le_of_ble_eq_true rfl) (fun v m1 h => ?_)
  obtain ⟨v2, rfl, h⟩ := h
  refine aw_eq (L' := [(0, .ref sb), (1, .ref (ad 0)), (2, .ref (ad 187)), (3, .ref (ad 217)), (4, .int x4)]) (st' := [.int v2]) (m' := m1) ?_ rfl rfl rfl
  refine aw_pop dL_law_719 rfl ?_
  refine aw_aload_n (j := 2) dL_law_720 rfl rfl ?_
  refine aw_aload_n (j := 0) dL_law_721 rfl rfl ?_
  refine aw_iload (j := 4) dL_law_722 rfl ?_
  refine aw_iconst (v := 1) dL_law_724 (by decide) ?_
  refine aw_iadd dL_law_725 ?_
  obtain ⟨hi, h⟩ := h
  refine aw_sld dL_law_726 hi ?_
  refine aw_aload_n (j := 0) dL_law_727 rfl rfl ?_
  refine aw_iload (j := 4) dL_law_728 rfl ?_
  refine aw_iconst (v := 2) dL_law_730 (by decide) ?_
  refine aw_iadd dL_law_731 ?_
  obtain ⟨hi, h⟩ := h
  refine aw_sld dL_law_732 hi ?_
  refine aw_aload_n (j := 0) dL_law_733 rfl rfl ?_
  refine aw_iload (j := 4) dL_law_734 rfl ?_
  refine aw_iconst (v := 3) dL_law_736 (by decide) ?_
  refine aw_iadd dL_law_737 ?_
  obtain ⟨hi, h⟩ := h
  refine aw_sld dL_law_738 hi ?_
  refine aw_callV (rest := []) [.int (xs (x4 + (1 : Int32)).toNatClampNeg), .int (xs (x4 + (2 : Int32)).toNatClampNeg), .int (xs (x4 + (3 : Int32)).toNatClampNeg)] dL_law_739 ly_187 rfl k_L_91 rfl h (Nat.le_of_ble_eq_true rfl) (fun v m3 h => ?_)
  obtain ⟨v4, rfl, h⟩ := h
  refine aw_eq (L' := [(0, .ref sb), (1, .ref (ad 0)), (2, .ref (ad 187)), (3, .ref (ad 217)), (4, .int x4)]) (st' := [.int v4]) (m' := m3) ?_ rfl rfl rfl
  refine aw_pop dL_law_742 rfl ?_
  refine aw_goto (tgt := 1522) dL_law_743 (by decide) ?_
  refine aw_iinc (j := 4) (v := x4 + (6 : Int32)) (L' := [(4, .int (x4 + (6 : Int32))), (0, .ref sb), (1, .ref (ad 0)), (2, .ref (ad 187)), (3, .ref (ad 217))]) dL_law_1522 rfl rfl (by decide) rfl ?_
  refine aw_goto (tgt := 23) dL_law_1525 (by decide) ?_
  exact aw_drop (Nat.le_succ _) (Nat.le_add_right _ _) (aw_sub [1, 2, 3, 4, 0] rfl h)
set_option maxRecDepth 100000 in
set_option maxHeartbeats 4000000 in
theorem g_L_law_746 {ad : Nat → Nat} {sb Ls kc ks : Nat} {xs : Nat → Int32} {d : Nat} {Q : Option Value → Wm → Prop} {m : Wm} {x4 : Int32} (h : (Ct ad μX11_undo d [.ref (ad 0)] m (fun r m1 => ∃ v2 : Int32, r = some (.int v2) ∧ (Ct ad μX12_undo d [.ref (ad 187)] m1 (fun r m3 => ∃ v4 : Int32, r = some (.int v4) ∧ AWl LAY ad (EX (SX sb Ls xs) kc ks LAY) μL_law (d + 1) Q 23 [(0, .ref sb), (1, .ref (ad 0)), (2, .ref (ad 187)), (3, .ref (ad 217)), (4, .int (x4 + (6 : Int32)))] [] m3))))) : AWl LAY ad (EX (SX sb Ls xs) (kc + 1) (ks + 6) LAY) μL_law (d + 1) Q 746 [(0, .ref sb), (1, .ref (ad 0)), (2, .ref (ad 187)), (3, .ref (ad 217)), (4, .int x4)] [] m := by
  refine aw_aload_n (j := 1) dL_law_746 rfl rfl ?_
  refine aw_callV (rest := []) [] dL_law_747 ly_0 rfl k_L_92 rfl h (Nat.le_of_ble_eq_true rfl) (fun v m1 h => ?_)
  obtain ⟨v2, rfl, h⟩ := h
  refine aw_eq (L' := [(0, .ref sb), (1, .ref (ad 0)), (2, .ref (ad 187)), (3, .ref (ad 217)), (4, .int x4)]) (st' := [.int v2]) (m' := m1) ?_ rfl rfl rfl
  refine aw_pop dL_law_750 rfl ?_
  refine aw_aload_n (j := 2) dL_law_751 rfl rfl ?_
  refine aw_callV (rest := []) [] dL_law_752 ly_187 rfl k_L_95 rfl h (Nat.le_of_ble_eq_true rfl) (fun v m3 h => ?_)
  obtain ⟨v4, rfl, h⟩ := h
  refine aw_eq (L' := [(0, .ref sb), (1, .ref (ad 0)), (2, .ref (ad 187)), (3, .ref (ad 217)), (4, .int x4)]) (st' := [.int v4]) (m' := m3) ?_ rfl rfl rfl
  refine aw_pop dL_law_755 rfl ?_
  refine aw_goto (tgt := 1522) dL_law_756 (by decide) ?_
  refine aw_iinc (j := 4) (v := x4 + (6 : Int32)) (L' := [(4, .int (x4 + (6 : Int32))), (0, .ref sb), (1, .ref (ad 0)), (2, .ref (ad 187)), (3, .ref (ad 217))]) dL_law_1522 rfl rfl (by decide) rfl ?_
  refine aw_goto (tgt := 23) dL_law_1525 (by decide) ?_
  exact aw_drop (Nat.le_succ _) (Nat.le_add_right _ _) (aw_sub [1, 2, 3, 4, 0] rfl h)
set_option maxRecDepth 100000 in
set_option maxHeartbeats 4000000 in
theorem g_L_law_759 {ad : Nat → Nat} {sb Ls kc ks : Nat} {xs : Nat → Int32} {d : Nat} {Q : Option Value → Wm → Prop} {m : Wm} {x4 : Int32} (h : (vp_in (x4 + (1 : Int32)) Ls ∧ (vp_in (x4 + (2 : Int32)) Ls ∧ (Ct ad μX11_judge d [.ref (ad 0), .int (xs (x4 + (1 : Int32)).toNatClampNeg), .int (xs (x4 + (2 : Int32)).toNatClampNeg)] m (fun r m1 => ∃ v2 : Int32, r = some (.int v2) ∧ (vp_in (x4 + (1 : Int32)) Ls ∧ (vp_in (x4 + (2 : Int32)) Ls ∧ (Ct ad μX12_judge d [.ref (ad 187), .int (xs (x4 + (1 : Int32)).toNatClampNeg), .int (xs (x4 + (2 : Int32)).toNatClampNeg)] m1 (fun r m3 => ∃ v4 : Int32, r = some (.int v4) ∧ AWl LAY ad (EX (SX sb Ls xs) kc ks LAY) μL_law (d + 1) Q 23 [(0, .ref sb), (1, .ref (ad 0)), (2, .ref (ad 187)), (3, .ref (ad 217)), (4, .int (x4 + (6 : Int32)))] [] m3))))))))) : AWl LAY ad (EX (SX sb Ls xs) (kc + 1) (ks + 6) LAY) μL_law (d + 1) Q 759 [(0, .ref sb), (1, .ref (ad 0)), (2, .ref (ad 187)), (3, .ref (ad 217)), (4, .int x4)] [] m := by
  refine aw_aload_n (j := 1) dL_law_759 rfl rfl ?_
  refine aw_aload_n (j := 0) dL_law_760 rfl rfl ?_
  refine aw_iload (j := 4) dL_law_761 rfl ?_
  refine aw_iconst (v := 1) dL_law_763 (by decide) ?_
  refine aw_iadd dL_law_764 ?_
  obtain ⟨hi, h⟩ := h
  refine aw_sld dL_law_765 hi ?_
  refine aw_aload_n (j := 0) dL_law_766 rfl rfl ?_
  refine aw_iload (j := 4) dL_law_767 rfl ?_
  refine aw_iconst (v := 2) dL_law_769 (by decide) ?_
  refine aw_iadd dL_law_770 ?_
  obtain ⟨hi, h⟩ := h
  refine aw_sld dL_law_771 hi ?_
  refine aw_callV (rest := []) [.int (xs (x4 + (1 : Int32)).toNatClampNeg), .int (xs (x4 + (2 : Int32)).toNatClampNeg)] dL_law_772 ly_0 rfl k_L_96 rfl h (Nat.le_of_ble_eq_true rfl) (fun v m1 h => ?_)
  obtain ⟨v2, rfl, h⟩ := h
  refine aw_eq (L' := [(0, .ref sb), (1, .ref (ad 0)), (2, .ref (ad 187)), (3, .ref (ad 217)), (4, .int x4)]) (st' := [.int v2]) (m' := m1) ?_ rfl rfl rfl
  refine aw_pop dL_law_775 rfl ?_
  refine aw_aload_n (j := 2) dL_law_776 rfl rfl ?_
  refine aw_aload_n (j := 0) dL_law_777 rfl rfl ?_
  refine aw_iload (j := 4) dL_law_778 rfl ?_
  refine aw_iconst (v := 1) dL_law_780 (by decide) ?_
  refine aw_iadd dL_law_781 ?_
  obtain ⟨hi, h⟩ := h
  refine aw_sld dL_law_782 hi ?_
  refine aw_aload_n (j := 0) dL_law_783 rfl rfl ?_
  refine aw_iload (j := 4) dL_law_784 rfl ?_
  refine aw_iconst (v := 2) dL_law_786 (by decide) ?_
  refine aw_iadd dL_law_787 ?_
  obtain ⟨hi, h⟩ := h
  refine aw_sld dL_law_788 hi ?_
  refine aw_callV (rest := []) [.int (xs (x4 + (1 : Int32)).toNatClampNeg), .int (xs (x4 + (2 : Int32)).toNatClampNeg)] dL_law_789 ly_187 rfl k_L_99 rfl h (Nat.le_of_ble_eq_true rfl) (fun v m3 h => ?_)
  obtain ⟨v4, rfl, h⟩ := h
  refine aw_eq (L' := [(0, .ref sb), (1, .ref (ad 0)), (2, .ref (ad 187)), (3, .ref (ad 217)), (4, .int x4)]) (st' := [.int v4]) (m' := m3) ?_ rfl rfl rfl
  refine aw_pop dL_law_792 rfl ?_
  refine aw_goto (tgt := 1522) dL_law_793 (by decide) ?_
  refine aw_iinc (j := 4) (v := x4 + (6 : Int32)) (L' := [(4, .int (x4 + (6 : Int32))), (0, .ref sb), (1, .ref (ad 0)), (2, .ref (ad 187)), (3, .ref (ad 217))]) dL_law_1522 rfl rfl (by decide) rfl ?_
  refine aw_goto (tgt := 23) dL_law_1525 (by decide) ?_
  exact aw_drop (Nat.le_succ _) (Nat.le_add_right _ _) (aw_sub [1, 2, 3, 4, 0] rfl h)
set_option maxRecDepth 100000 in
set_option maxHeartbeats 4000000 in
theorem g_L_law_796 {ad : Nat → Nat} {sb Ls kc ks : Nat} {xs : Nat → Int32} {d : Nat} {Q : Option Value → Wm → Prop} {m : Wm} {x4 : Int32} (h : (vp_in (x4 + (1 : Int32)) Ls ∧ (Ct ad μX11_rounds d [.ref (ad 0), .int (xs (x4 + (1 : Int32)).toNatClampNeg)] m (fun r m1 => ∃ v2 : Int32, r = some (.int v2) ∧ (vp_in (x4 + (1 : Int32)) Ls ∧ (Ct ad μX12_rounds d [.ref (ad 187), .int (xs (x4 + (1 : Int32)).toNatClampNeg)] m1 (fun r m3 => ∃ v4 : Int32, r = some (.int v4) ∧ ((v2 = v4 → AWl LAY ad (EX (SX sb Ls xs) kc ks LAY) μL_law (d + 1) Q 23 [(0, .ref sb), (1, .ref (ad 0)), (2, .ref (ad 187)), (3, .ref (ad 217)), (4, .int (x4 + (6 : Int32)))] [] m3) ∧ (¬ v2 = v4 → Q (some (.int (0 : Int32))) m3))))))))) : AWl LAY ad (EX (SX sb Ls xs) (kc + 1) (ks + 6) LAY) μL_law (d + 1) Q 796 [(0, .ref sb), (1, .ref (ad 0)), (2, .ref (ad 187)), (3, .ref (ad 217)), (4, .int x4)] [] m := by
  refine aw_aload_n (j := 1) dL_law_796 rfl rfl ?_
  refine aw_aload_n (j := 0) dL_law_797 rfl rfl ?_
  refine aw_iload (j := 4) dL_law_798 rfl ?_
  refine aw_iconst (v := 1) dL_law_800 (by decide) ?_
  refine aw_iadd dL_law_801 ?_
  obtain ⟨hi, h⟩ := h
  refine aw_sld dL_law_802 hi ?_
  refine aw_callV (rest := []) [.int (xs (x4 + (1 : Int32)).toNatClampNeg)] dL_law_803 ly_0 rfl k_L_100 rfl h (Nat.le_of_ble_eq_true rfl) (fun v m1 h => ?_)
  obtain ⟨v2, rfl, h⟩ := h
  refine aw_eq (L' := [(0, .ref sb), (1, .ref (ad 0)), (2, .ref (ad 187)), (3, .ref (ad 217)), (4, .int x4)]) (st' := [.int v2]) (m' := m1) ?_ rfl rfl rfl
  refine aw_aload_n (j := 2) dL_law_806 rfl rfl ?_
  refine aw_aload_n (j := 0) dL_law_807 rfl rfl ?_
  refine aw_iload (j := 4) dL_law_808 rfl ?_
  refine aw_iconst (v := 1) dL_law_810 (by decide) ?_
  refine aw_iadd dL_law_811 ?_
  obtain ⟨hi, h⟩ := h
  refine aw_sld dL_law_812 hi ?_
  refine aw_callV (rest := [.int v2]) [.int (xs (x4 + (1 : Int32)).toNatClampNeg)] dL_law_813 ly_187 rfl k_L_103 rfl h (Nat.le_of_ble_eq_true rfl) (fun v m3 h => ?_)
  obtain ⟨v4, rfl, h⟩ := h
  refine aw_eq (L' := [(0, .ref sb), (1, .ref (ad 0)), (2, .ref (ad 187)), (3, .ref (ad 217)), (4, .int x4)]) (st' := [.int v4, .int v2]) (m' := m3) ?_ rfl rfl rfl
  refine aw_icmp_eq (tgt := 1522) dL_law_816 (by decide) (fun hc => ?_) (fun hc => ?_)
  · have h := h.1 hc
    refine aw_iinc (j := 4) (v := x4 + (6 : Int32)) (L' := [(4, .int (x4 + (6 : Int32))), (0, .ref sb), (1, .ref (ad 0)), (2, .ref (ad 187)), (3, .ref (ad 217))]) dL_law_1522 rfl rfl (by decide) rfl ?_
    refine aw_goto (tgt := 23) dL_law_1525 (by decide) ?_
    exact aw_drop (Nat.le_succ _) (Nat.le_add_right _ _) (aw_sub [1, 2, 3, 4, 0] rfl h)
  · have h := h.2 hc
    refine aw_iconst (v := 0) dL_law_819 (by decide) ?_
    exact aw_ret (v := some (.int (0 : Int32))) rfl (Or.inr (Or.inl ⟨_, .boolean, rfl, rfl, by decide, dL_law_820⟩)) h
set_option maxRecDepth 100000 in
set_option maxHeartbeats 4000000 in
theorem g_L_law_821 {ad : Nat → Nat} {sb Ls kc ks : Nat} {xs : Nat → Int32} {d : Nat} {Q : Option Value → Wm → Prop} {m : Wm} {x4 : Int32} (h : (vp_in (x4 + (1 : Int32)) Ls ∧ (Ct ad μX11_beats d [.ref (ad 0), .int (xs (x4 + (1 : Int32)).toNatClampNeg)] m (fun r m1 => ∃ v2 : Int32, r = some (.int v2) ∧ (vp_in (x4 + (1 : Int32)) Ls ∧ (Ct ad μX12_beats d [.ref (ad 187), .int (xs (x4 + (1 : Int32)).toNatClampNeg)] m1 (fun r m3 => ∃ v4 : Int32, r = some (.int v4) ∧ AWl LAY ad (EX (SX sb Ls xs) kc ks LAY) μL_law (d + 1) Q 23 [(0, .ref sb), (1, .ref (ad 0)), (2, .ref (ad 187)), (3, .ref (ad 217)), (4, .int (x4 + (6 : Int32)))] [] m3))))))) : AWl LAY ad (EX (SX sb Ls xs) (kc + 1) (ks + 6) LAY) μL_law (d + 1) Q 821 [(0, .ref sb), (1, .ref (ad 0)), (2, .ref (ad 187)), (3, .ref (ad 217)), (4, .int x4)] [] m := by
  refine aw_aload_n (j := 1) dL_law_821 rfl rfl ?_
  refine aw_aload_n (j := 0) dL_law_822 rfl rfl ?_
  refine aw_iload (j := 4) dL_law_823 rfl ?_
  refine aw_iconst (v := 1) dL_law_825 (by decide) ?_
  refine aw_iadd dL_law_826 ?_
  obtain ⟨hi, h⟩ := h
  refine aw_sld dL_law_827 hi ?_
  refine aw_callV (rest := []) [.int (xs (x4 + (1 : Int32)).toNatClampNeg)] dL_law_828 ly_0 rfl k_L_104 rfl h (Nat.le_of_ble_eq_true rfl) (fun v m1 h => ?_)
  obtain ⟨v2, rfl, h⟩ := h
  refine aw_eq (L' := [(0, .ref sb), (1, .ref (ad 0)), (2, .ref (ad 187)), (3, .ref (ad 217)), (4, .int x4)]) (st' := [.int v2]) (m' := m1) ?_ rfl rfl rfl
  refine aw_pop dL_law_831 rfl ?_
  refine aw_aload_n (j := 2) dL_law_832 rfl rfl ?_
  refine aw_aload_n (j := 0) dL_law_833 rfl rfl ?_
  refine aw_iload (j := 4) dL_law_834 rfl ?_
  refine aw_iconst (v := 1) dL_law_836 (by decide) ?_
  refine aw_iadd dL_law_837 ?_
  obtain ⟨hi, h⟩ := h
  refine aw_sld dL_law_838 hi ?_
  refine aw_callV (rest := []) [.int (xs (x4 + (1 : Int32)).toNatClampNeg)] dL_law_839 ly_187 rfl k_L_107 rfl h (Nat.le_of_ble_eq_true rfl) (fun v m3 h => ?_)
  obtain ⟨v4, rfl, h⟩ := h
  refine aw_eq (L' := [(0, .ref sb), (1, .ref (ad 0)), (2, .ref (ad 187)), (3, .ref (ad 217)), (4, .int x4)]) (st' := [.int v4]) (m' := m3) ?_ rfl rfl rfl
  refine aw_pop dL_law_842 rfl ?_
  refine aw_goto (tgt := 1522) dL_law_843 (by decide) ?_
  refine aw_iinc (j := 4) (v := x4 + (6 : Int32)) (L' := [(4, .int (x4 + (6 : Int32))), (0, .ref sb), (1, .ref (ad 0)), (2, .ref (ad 187)), (3, .ref (ad 217))]) dL_law_1522 rfl rfl (by decide) rfl ?_
  refine aw_goto (tgt := 23) dL_law_1525 (by decide) ?_
  exact aw_drop (Nat.le_succ _) (Nat.le_add_right _ _) (aw_sub [1, 2, 3, 4, 0] rfl h)
set_option maxRecDepth 100000 in
set_option maxHeartbeats 4000000 in
theorem g_L_law_846 {ad : Nat → Nat} {sb Ls kc ks : Nat} {xs : Nat → Int32} {d : Nat} {Q : Option Value → Wm → Prop} {m : Wm} {x4 : Int32} (h : (Ct ad μX11_kings d [.ref (ad 0)] m (fun r m1 => ∃ v2 : Int32, r = some (.int v2) ∧ (Ct ad μX12_kings d [.ref (ad 187)] m1 (fun r m3 => ∃ v4 : Int32, r = some (.int v4) ∧ AWl LAY ad (EX (SX sb Ls xs) kc ks LAY) μL_law (d + 1) Q 23 [(0, .ref sb), (1, .ref (ad 0)), (2, .ref (ad 187)), (3, .ref (ad 217)), (4, .int (x4 + (6 : Int32)))] [] m3))))) : AWl LAY ad (EX (SX sb Ls xs) (kc + 1) (ks + 6) LAY) μL_law (d + 1) Q 846 [(0, .ref sb), (1, .ref (ad 0)), (2, .ref (ad 187)), (3, .ref (ad 217)), (4, .int x4)] [] m := by
  refine aw_aload_n (j := 1) dL_law_846 rfl rfl ?_
  refine aw_callV (rest := []) [] dL_law_847 ly_0 rfl k_L_108 rfl h (Nat.le_of_ble_eq_true rfl) (fun v m1 h => ?_)
  obtain ⟨v2, rfl, h⟩ := h
  refine aw_eq (L' := [(0, .ref sb), (1, .ref (ad 0)), (2, .ref (ad 187)), (3, .ref (ad 217)), (4, .int x4)]) (st' := [.int v2]) (m' := m1) ?_ rfl rfl rfl
  refine aw_pop dL_law_850 rfl ?_
  refine aw_aload_n (j := 2) dL_law_851 rfl rfl ?_
  refine aw_callV (rest := []) [] dL_law_852 ly_187 rfl k_L_111 rfl h (Nat.le_of_ble_eq_true rfl) (fun v m3 h => ?_)
  obtain ⟨v4, rfl, h⟩ := h
  refine aw_eq (L' := [(0, .ref sb), (1, .ref (ad 0)), (2, .ref (ad 187)), (3, .ref (ad 217)), (4, .int x4)]) (st' := [.int v4]) (m' := m3) ?_ rfl rfl rfl
  refine aw_pop dL_law_855 rfl ?_
  refine aw_goto (tgt := 1522) dL_law_856 (by decide) ?_
  refine aw_iinc (j := 4) (v := x4 + (6 : Int32)) (L' := [(4, .int (x4 + (6 : Int32))), (0, .ref sb), (1, .ref (ad 0)), (2, .ref (ad 187)), (3, .ref (ad 217))]) dL_law_1522 rfl rfl (by decide) rfl ?_
  refine aw_goto (tgt := 23) dL_law_1525 (by decide) ?_
  exact aw_drop (Nat.le_succ _) (Nat.le_add_right _ _) (aw_sub [1, 2, 3, 4, 0] rfl h)
set_option maxRecDepth 100000 in
set_option maxHeartbeats 4000000 in
theorem g_L_law_859 {ad : Nat → Nat} {sb Ls kc ks : Nat} {xs : Nat → Int32} {d : Nat} {Q : Option Value → Wm → Prop} {m : Wm} {x4 : Int32} (h : (vp_in (x4 + (1 : Int32)) Ls ∧ (Ct ad μX11_master d [.ref (ad 0), .int (xs (x4 + (1 : Int32)).toNatClampNeg)] m (fun r m1 => ∃ v2 : Int32, r = some (.int v2) ∧ (vp_in (x4 + (1 : Int32)) Ls ∧ (Ct ad μX12_master d [.ref (ad 187), .int (xs (x4 + (1 : Int32)).toNatClampNeg)] m1 (fun r m3 => ∃ v4 : Int32, r = some (.int v4) ∧ AWl LAY ad (EX (SX sb Ls xs) kc ks LAY) μL_law (d + 1) Q 23 [(0, .ref sb), (1, .ref (ad 0)), (2, .ref (ad 187)), (3, .ref (ad 217)), (4, .int (x4 + (6 : Int32)))] [] m3))))))) : AWl LAY ad (EX (SX sb Ls xs) (kc + 1) (ks + 6) LAY) μL_law (d + 1) Q 859 [(0, .ref sb), (1, .ref (ad 0)), (2, .ref (ad 187)), (3, .ref (ad 217)), (4, .int x4)] [] m := by
  refine aw_aload_n (j := 1) dL_law_859 rfl rfl ?_
  refine aw_aload_n (j := 0) dL_law_860 rfl rfl ?_
  refine aw_iload (j := 4) dL_law_861 rfl ?_
  refine aw_iconst (v := 1) dL_law_863 (by decide) ?_
  refine aw_iadd dL_law_864 ?_
  obtain ⟨hi, h⟩ := h
  refine aw_sld dL_law_865 hi ?_
  refine aw_callV (rest := []) [.int (xs (x4 + (1 : Int32)).toNatClampNeg)] dL_law_866 ly_0 rfl k_L_112 rfl h (Nat.le_of_ble_eq_true rfl) (fun v m1 h => ?_)
  obtain ⟨v2, rfl, h⟩ := h
  refine aw_eq (L' := [(0, .ref sb), (1, .ref (ad 0)), (2, .ref (ad 187)), (3, .ref (ad 217)), (4, .int x4)]) (st' := [.int v2]) (m' := m1) ?_ rfl rfl rfl
  refine aw_pop dL_law_869 rfl ?_
  refine aw_aload_n (j := 2) dL_law_870 rfl rfl ?_
  refine aw_aload_n (j := 0) dL_law_871 rfl rfl ?_
  refine aw_iload (j := 4) dL_law_872 rfl ?_
  refine aw_iconst (v := 1) dL_law_874 (by decide) ?_
  refine aw_iadd dL_law_875 ?_
  obtain ⟨hi, h⟩ := h
  refine aw_sld dL_law_876 hi ?_
  refine aw_callV (rest := []) [.int (xs (x4 + (1 : Int32)).toNatClampNeg)] dL_law_877 ly_187 rfl k_L_115 rfl h (Nat.le_of_ble_eq_true rfl) (fun v m3 h => ?_)
  obtain ⟨v4, rfl, h⟩ := h
  refine aw_eq (L' := [(0, .ref sb), (1, .ref (ad 0)), (2, .ref (ad 187)), (3, .ref (ad 217)), (4, .int x4)]) (st' := [.int v4]) (m' := m3) ?_ rfl rfl rfl
  refine aw_pop dL_law_880 rfl ?_
  refine aw_goto (tgt := 1522) dL_law_881 (by decide) ?_
  refine aw_iinc (j := 4) (v := x4 + (6 : Int32)) (L' := [(4, .int (x4 + (6 : Int32))), (0, .ref sb), (1, .ref (ad 0)), (2, .ref (ad 187)), (3, .ref (ad 217))]) dL_law_1522 rfl rfl (by decide) rfl ?_
  refine aw_goto (tgt := 23) dL_law_1525 (by decide) ?_
  exact aw_drop (Nat.le_succ _) (Nat.le_add_right _ _) (aw_sub [1, 2, 3, 4, 0] rfl h)
set_option maxRecDepth 100000 in
set_option maxHeartbeats 4000000 in
theorem g_L_law_884 {ad : Nat → Nat} {sb Ls kc ks : Nat} {xs : Nat → Int32} {d : Nat} {Q : Option Value → Wm → Prop} {m : Wm} {x4 : Int32} (h : (Ct ad μX11_table d [.ref (ad 0)] m (fun r m1 => ∃ v2 : Int32, r = some (.int v2) ∧ (Ct ad μX12_table d [.ref (ad 187)] m1 (fun r m3 => ∃ v4 : Int32, r = some (.int v4) ∧ AWl LAY ad (EX (SX sb Ls xs) kc ks LAY) μL_law (d + 1) Q 23 [(0, .ref sb), (1, .ref (ad 0)), (2, .ref (ad 187)), (3, .ref (ad 217)), (4, .int (x4 + (6 : Int32)))] [] m3))))) : AWl LAY ad (EX (SX sb Ls xs) (kc + 1) (ks + 6) LAY) μL_law (d + 1) Q 884 [(0, .ref sb), (1, .ref (ad 0)), (2, .ref (ad 187)), (3, .ref (ad 217)), (4, .int x4)] [] m := by
  refine aw_aload_n (j := 1) dL_law_884 rfl rfl ?_
  refine aw_callV (rest := []) [] dL_law_885 ly_0 rfl k_L_116 rfl h (Nat.le_of_ble_eq_true rfl) (fun v m1 h => ?_)
  obtain ⟨v2, rfl, h⟩ := h
  refine aw_eq (L' := [(0, .ref sb), (1, .ref (ad 0)), (2, .ref (ad 187)), (3, .ref (ad 217)), (4, .int x4)]) (st' := [.int v2]) (m' := m1) ?_ rfl rfl rfl
  refine aw_pop dL_law_888 rfl ?_
  refine aw_aload_n (j := 2) dL_law_889 rfl rfl ?_
  refine aw_callV (rest := []) [] dL_law_890 ly_187 rfl k_L_119 rfl h (Nat.le_of_ble_eq_true rfl) (fun v m3 h => ?_)
  obtain ⟨v4, rfl, h⟩ := h
  refine aw_eq (L' := [(0, .ref sb), (1, .ref (ad 0)), (2, .ref (ad 187)), (3, .ref (ad 217)), (4, .int x4)]) (st' := [.int v4]) (m' := m3) ?_ rfl rfl rfl
  refine aw_pop dL_law_893 rfl ?_
  refine aw_goto (tgt := 1522) dL_law_894 (by decide) ?_
  refine aw_iinc (j := 4) (v := x4 + (6 : Int32)) (L' := [(4, .int (x4 + (6 : Int32))), (0, .ref sb), (1, .ref (ad 0)), (2, .ref (ad 187)), (3, .ref (ad 217))]) dL_law_1522 rfl rfl (by decide) rfl ?_
  refine aw_goto (tgt := 23) dL_law_1525 (by decide) ?_
  exact aw_drop (Nat.le_succ _) (Nat.le_add_right _ _) (aw_sub [1, 2, 3, 4, 0] rfl h)
set_option maxRecDepth 100000 in
set_option maxHeartbeats 4000000 in
theorem g_L_law_897 {ad : Nat → Nat} {sb Ls kc ks : Nat} {xs : Nat → Int32} {d : Nat} {Q : Option Value → Wm → Prop} {m : Wm} {x4 : Int32} (h : (Ct ad μX11_spread d [.ref (ad 0)] m (fun r m1 => ∃ v2 : Int32, r = some (.int v2) ∧ (Ct ad μX12_spread d [.ref (ad 187)] m1 (fun r m3 => ∃ v4 : Int32, r = some (.int v4) ∧ AWl LAY ad (EX (SX sb Ls xs) kc ks LAY) μL_law (d + 1) Q 23 [(0, .ref sb), (1, .ref (ad 0)), (2, .ref (ad 187)), (3, .ref (ad 217)), (4, .int (x4 + (6 : Int32)))] [] m3))))) : AWl LAY ad (EX (SX sb Ls xs) (kc + 1) (ks + 6) LAY) μL_law (d + 1) Q 897 [(0, .ref sb), (1, .ref (ad 0)), (2, .ref (ad 187)), (3, .ref (ad 217)), (4, .int x4)] [] m := by
  refine aw_aload_n (j := 1) dL_law_897 rfl rfl ?_
  refine aw_callV (rest := []) [] dL_law_898 ly_0 rfl k_L_120 rfl h (Nat.le_of_ble_eq_true rfl) (fun v m1 h => ?_)
  obtain ⟨v2, rfl, h⟩ := h
  refine aw_eq (L' := [(0, .ref sb), (1, .ref (ad 0)), (2, .ref (ad 187)), (3, .ref (ad 217)), (4, .int x4)]) (st' := [.int v2]) (m' := m1) ?_ rfl rfl rfl
  refine aw_pop dL_law_901 rfl ?_
  refine aw_aload_n (j := 2) dL_law_902 rfl rfl ?_
  refine aw_callV (rest := []) [] dL_law_903 ly_187 rfl k_L_123 rfl h (Nat.le_of_ble_eq_true rfl) (fun v m3 h => ?_)
  obtain ⟨v4, rfl, h⟩ := h
  refine aw_eq (L' := [(0, .ref sb), (1, .ref (ad 0)), (2, .ref (ad 187)), (3, .ref (ad 217)), (4, .int x4)]) (st' := [.int v4]) (m' := m3) ?_ rfl rfl rfl
  refine aw_pop dL_law_906 rfl ?_
  refine aw_goto (tgt := 1522) dL_law_907 (by decide) ?_
  refine aw_iinc (j := 4) (v := x4 + (6 : Int32)) (L' := [(4, .int (x4 + (6 : Int32))), (0, .ref sb), (1, .ref (ad 0)), (2, .ref (ad 187)), (3, .ref (ad 217))]) dL_law_1522 rfl rfl (by decide) rfl ?_
  refine aw_goto (tgt := 23) dL_law_1525 (by decide) ?_
  exact aw_drop (Nat.le_succ _) (Nat.le_add_right _ _) (aw_sub [1, 2, 3, 4, 0] rfl h)
set_option maxRecDepth 100000 in
set_option maxHeartbeats 4000000 in
theorem g_L_law_910 {ad : Nat → Nat} {sb Ls kc ks : Nat} {xs : Nat → Int32} {d : Nat} {Q : Option Value → Wm → Prop} {m : Wm} {x4 : Int32} (h : (Ct ad μX11_rest d [.ref (ad 0)] m (fun r m1 => ∃ v2 : Int32, r = some (.int v2) ∧ (Ct ad μX12_rest d [.ref (ad 187)] m1 (fun r m3 => ∃ v4 : Int32, r = some (.int v4) ∧ AWl LAY ad (EX (SX sb Ls xs) kc ks LAY) μL_law (d + 1) Q 23 [(0, .ref sb), (1, .ref (ad 0)), (2, .ref (ad 187)), (3, .ref (ad 217)), (4, .int (x4 + (6 : Int32)))] [] m3))))) : AWl LAY ad (EX (SX sb Ls xs) (kc + 1) (ks + 6) LAY) μL_law (d + 1) Q 910 [(0, .ref sb), (1, .ref (ad 0)), (2, .ref (ad 187)), (3, .ref (ad 217)), (4, .int x4)] [] m := by
  refine aw_aload_n (j := 1) dL_law_910 rfl rfl ?_
  refine aw_callV (rest := []) [] dL_law_911 ly_0 rfl k_L_124 rfl h (Nat.le_of_ble_eq_true rfl) (fun v m1 h => ?_)
  obtain ⟨v2, rfl, h⟩ := h
  refine aw_eq (L' := [(0, .ref sb), (1, .ref (ad 0)), (2, .ref (ad 187)), (3, .ref (ad 217)), (4, .int x4)]) (st' := [.int v2]) (m' := m1) ?_ rfl rfl rfl
  refine aw_pop dL_law_914 rfl ?_
  refine aw_aload_n (j := 2) dL_law_915 rfl rfl ?_
  refine aw_callV (rest := []) [] dL_law_916 ly_187 rfl k_L_127 rfl h (Nat.le_of_ble_eq_true rfl) (fun v m3 h => ?_)
  obtain ⟨v4, rfl, h⟩ := h
  refine aw_eq (L' := [(0, .ref sb), (1, .ref (ad 0)), (2, .ref (ad 187)), (3, .ref (ad 217)), (4, .int x4)]) (st' := [.int v4]) (m' := m3) ?_ rfl rfl rfl
  refine aw_pop dL_law_919 rfl ?_
  refine aw_goto (tgt := 1522) dL_law_920 (by decide) ?_
  refine aw_iinc (j := 4) (v := x4 + (6 : Int32)) (L' := [(4, .int (x4 + (6 : Int32))), (0, .ref sb), (1, .ref (ad 0)), (2, .ref (ad 187)), (3, .ref (ad 217))]) dL_law_1522 rfl rfl (by decide) rfl ?_
  refine aw_goto (tgt := 23) dL_law_1525 (by decide) ?_
  exact aw_drop (Nat.le_succ _) (Nat.le_add_right _ _) (aw_sub [1, 2, 3, 4, 0] rfl h)
set_option maxRecDepth 100000 in
set_option maxHeartbeats 4000000 in
theorem g_L_law_923 {ad : Nat → Nat} {sb Ls kc ks : Nat} {xs : Nat → Int32} {d : Nat} {Q : Option Value → Wm → Prop} {m : Wm} {x4 : Int32} (h : (vp_in (x4 + (1 : Int32)) Ls ∧ (vp_in (x4 + (2 : Int32)) Ls ∧ (Ct ad μX11_mean d [.ref (ad 0), .int (xs (x4 + (1 : Int32)).toNatClampNeg), .int (xs (x4 + (2 : Int32)).toNatClampNeg)] m (fun r m1 => ∃ v2 : Int32, r = some (.int v2) ∧ (vp_in (x4 + (1 : Int32)) Ls ∧ (vp_in (x4 + (2 : Int32)) Ls ∧ (Ct ad μX12_mean d [.ref (ad 187), .int (xs (x4 + (1 : Int32)).toNatClampNeg), .int (xs (x4 + (2 : Int32)).toNatClampNeg)] m1 (fun r m3 => ∃ v4 : Int32, r = some (.int v4) ∧ AWl LAY ad (EX (SX sb Ls xs) kc ks LAY) μL_law (d + 1) Q 23 [(0, .ref sb), (1, .ref (ad 0)), (2, .ref (ad 187)), (3, .ref (ad 217)), (4, .int (x4 + (6 : Int32)))] [] m3))))))))) : AWl LAY ad (EX (SX sb Ls xs) (kc + 1) (ks + 6) LAY) μL_law (d + 1) Q 923 [(0, .ref sb), (1, .ref (ad 0)), (2, .ref (ad 187)), (3, .ref (ad 217)), (4, .int x4)] [] m := by
  refine aw_aload_n (j := 1) dL_law_923 rfl rfl ?_
  refine aw_aload_n (j := 0) dL_law_924 rfl rfl ?_
  refine aw_iload (j := 4) dL_law_925 rfl ?_
  refine aw_iconst (v := 1) dL_law_927 (by decide) ?_
  refine aw_iadd dL_law_928 ?_
  obtain ⟨hi, h⟩ := h
  refine aw_sld dL_law_929 hi ?_
  refine aw_aload_n (j := 0) dL_law_930 rfl rfl ?_
  refine aw_iload (j := 4) dL_law_931 rfl ?_
  refine aw_iconst (v := 2) dL_law_933 (by decide) ?_
  refine aw_iadd dL_law_934 ?_
  obtain ⟨hi, h⟩ := h
  refine aw_sld dL_law_935 hi ?_
  refine aw_callV (rest := []) [.int (xs (x4 + (1 : Int32)).toNatClampNeg), .int (xs (x4 + (2 : Int32)).toNatClampNeg)] dL_law_936 ly_0 rfl k_L_128 rfl h (Nat.le_of_ble_eq_true rfl) (fun v m1 h => ?_)
  obtain ⟨v2, rfl, h⟩ := h
  refine aw_eq (L' := [(0, .ref sb), (1, .ref (ad 0)), (2, .ref (ad 187)), (3, .ref (ad 217)), (4, .int x4)]) (st' := [.int v2]) (m' := m1) ?_ rfl rfl rfl
  refine aw_pop dL_law_939 rfl ?_
  refine aw_aload_n (j := 2) dL_law_940 rfl rfl ?_
  refine aw_aload_n (j := 0) dL_law_941 rfl rfl ?_
  refine aw_iload (j := 4) dL_law_942 rfl ?_
  refine aw_iconst (v := 1) dL_law_944 (by decide) ?_
  refine aw_iadd dL_law_945 ?_
  obtain ⟨hi, h⟩ := h
  refine aw_sld dL_law_946 hi ?_
  refine aw_aload_n (j := 0) dL_law_947 rfl rfl ?_
  refine aw_iload (j := 4) dL_law_948 rfl ?_
  refine aw_iconst (v := 2) dL_law_950 (by decide) ?_
  refine aw_iadd dL_law_951 ?_
  obtain ⟨hi, h⟩ := h
  refine aw_sld dL_law_952 hi ?_
  refine aw_callV (rest := []) [.int (xs (x4 + (1 : Int32)).toNatClampNeg), .int (xs (x4 + (2 : Int32)).toNatClampNeg)] dL_law_953 ly_187 rfl k_L_131 rfl h (Nat.le_of_ble_eq_true rfl) (fun v m3 h => ?_)
  obtain ⟨v4, rfl, h⟩ := h
  refine aw_eq (L' := [(0, .ref sb), (1, .ref (ad 0)), (2, .ref (ad 187)), (3, .ref (ad 217)), (4, .int x4)]) (st' := [.int v4]) (m' := m3) ?_ rfl rfl rfl
  refine aw_pop dL_law_956 rfl ?_
  refine aw_goto (tgt := 1522) dL_law_957 (by decide) ?_
  refine aw_iinc (j := 4) (v := x4 + (6 : Int32)) (L' := [(4, .int (x4 + (6 : Int32))), (0, .ref sb), (1, .ref (ad 0)), (2, .ref (ad 187)), (3, .ref (ad 217))]) dL_law_1522 rfl rfl (by decide) rfl ?_
  refine aw_goto (tgt := 23) dL_law_1525 (by decide) ?_
  exact aw_drop (Nat.le_succ _) (Nat.le_add_right _ _) (aw_sub [1, 2, 3, 4, 0] rfl h)
set_option maxRecDepth 100000 in
set_option maxHeartbeats 4000000 in
theorem g_L_law_960 {ad : Nat → Nat} {sb Ls kc ks : Nat} {xs : Nat → Int32} {d : Nat} {Q : Option Value → Wm → Prop} {m : Wm} {x4 : Int32} (h : (vp_in (x4 + (1 : Int32)) Ls ∧ (vp_in (x4 + (2 : Int32)) Ls ∧ (vp_in (x4 + (3 : Int32)) Ls ∧ (Ct ad μX11_soon d [.ref (ad 0), .int (xs (x4 + (1 : Int32)).toNatClampNeg), .int (xs (x4 + (2 : Int32)).toNatClampNeg), .int (xs (x4 + (3 : Int32)).toNatClampNeg)] m (fun r m1 => ∃ v2 : Int32, r = some (.int v2) ∧ (vp_in (x4 + (1 : Int32)) Ls ∧ (vp_in (x4 + (2 : Int32)) Ls ∧ (vp_in (x4 + (3 : Int32)) Ls ∧ (Ct ad μX12_soon d [.ref (ad 187), .int (xs (x4 + (1 : Int32)).toNatClampNeg), .int (xs (x4 + (2 : Int32)).toNatClampNeg), .int (xs (x4 + (3 : Int32)).toNatClampNeg)] m1 (fun r m3 => ∃ v4 : Int32, r = some (.int v4) ∧ AWl LAY ad (EX (SX sb Ls xs) kc ks LAY) μL_law (d + 1) Q 23 [(0, .ref sb), (1, .ref (ad 0)), (2, .ref (ad 187)), (3, .ref (ad 217)), (4, .int (x4 + (6 : Int32)))] [] m3))))))))))) : AWl LAY ad (EX (SX sb Ls xs) (kc + 1) (ks + 6) LAY) μL_law (d + 1) Q 960 [(0, .ref sb), (1, .ref (ad 0)), (2, .ref (ad 187)), (3, .ref (ad 217)), (4, .int x4)] [] m := by
  refine aw_aload_n (j := 1) dL_law_960 rfl rfl ?_
  refine aw_aload_n (j := 0) dL_law_961 rfl rfl ?_
  refine aw_iload (j := 4) dL_law_962 rfl ?_
  refine aw_iconst (v := 1) dL_law_964 (by decide) ?_
  refine aw_iadd dL_law_965 ?_
  obtain ⟨hi, h⟩ := h
  refine aw_sld dL_law_966 hi ?_
  refine aw_aload_n (j := 0) dL_law_967 rfl rfl ?_
  refine aw_iload (j := 4) dL_law_968 rfl ?_
  refine aw_iconst (v := 2) dL_law_970 (by decide) ?_
  refine aw_iadd dL_law_971 ?_
  obtain ⟨hi, h⟩ := h
  refine aw_sld dL_law_972 hi ?_
  refine aw_aload_n (j := 0) dL_law_973 rfl rfl ?_
  refine aw_iload (j := 4) dL_law_974 rfl ?_
  refine aw_iconst (v := 3) dL_law_976 (by decide) ?_
  refine aw_iadd dL_law_977 ?_
  obtain ⟨hi, h⟩ := h
  refine aw_sld dL_law_978 hi ?_
  refine aw_callV (rest := []) [.int (xs (x4 + (1 : Int32)).toNatClampNeg), .int (xs (x4 + (2 : Int32)).toNatClampNeg), .int (xs (x4 + (3 : Int32)).toNatClampNeg)] dL_law_979 ly_0 rfl k_L_132 rfl h (Nat.le_of_ble_eq_true rfl) (fun v m1 h => ?_)
  obtain ⟨v2, rfl, h⟩ := h
  refine aw_eq (L' := [(0, .ref sb), (1, .ref (ad 0)), (2, .ref (ad 187)), (3, .ref (ad 217)), (4, .int x4)]) (st' := [.int v2]) (m' := m1) ?_ rfl rfl rfl
  refine aw_pop dL_law_982 rfl ?_
  refine aw_aload_n (j := 2) dL_law_983 rfl rfl ?_
  refine aw_aload_n (j := 0) dL_law_984 rfl rfl ?_
  refine aw_iload (j := 4) dL_law_985 rfl ?_
  refine aw_iconst (v := 1) dL_law_987 (by decide) ?_
  refine aw_iadd dL_law_988 ?_
  obtain ⟨hi, h⟩ := h
  refine aw_sld dL_law_989 hi ?_
  refine aw_aload_n (j := 0) dL_law_990 rfl rfl ?_
  refine aw_iload (j := 4) dL_law_991 rfl ?_
  refine aw_iconst (v := 2) dL_law_993 (by decide) ?_
  refine aw_iadd dL_law_994 ?_
  obtain ⟨hi, h⟩ := h
  refine aw_sld dL_law_995 hi ?_
  refine aw_aload_n (j := 0) dL_law_996 rfl rfl ?_
  refine aw_iload (j := 4) dL_law_997 rfl ?_
  refine aw_iconst (v := 3) dL_law_999 (by decide) ?_
  refine aw_iadd dL_law_1000 ?_
  obtain ⟨hi, h⟩ := h
  refine aw_sld dL_law_1001 hi ?_
  refine aw_callV (rest := []) [.int (xs (x4 + (1 : Int32)).toNatClampNeg), .int (xs (x4 + (2 : Int32)).toNatClampNeg), .int (xs (x4 + (3 : Int32)).toNatClampNeg)] dL_law_1002 ly_187 rfl k_L_135 rfl h (Nat.le_of_ble_eq_true rfl) (fun v m3 h => ?_)
  obtain ⟨v4, rfl, h⟩ := h
  refine aw_eq (L' := [(0, .ref sb), (1, .ref (ad 0)), (2, .ref (ad 187)), (3, .ref (ad 217)), (4, .int x4)]) (st' := [.int v4]) (m' := m3) ?_ rfl rfl rfl
  refine aw_pop dL_law_1005 rfl ?_
  refine aw_goto (tgt := 1522) dL_law_1006 (by decide) ?_
  refine aw_iinc (j := 4) (v := x4 + (6 : Int32)) (L' := [(4, .int (x4 + (6 : Int32))), (0, .ref sb), (1, .ref (ad 0)), (2, .ref (ad 187)), (3, .ref (ad 217))]) dL_law_1522 rfl rfl (by decide) rfl ?_
  refine aw_goto (tgt := 23) dL_law_1525 (by decide) ?_
  exact aw_drop (Nat.le_succ _) (Nat.le_add_right _ _) (aw_sub [1, 2, 3, 4, 0] rfl h)
set_option maxRecDepth 100000 in
set_option maxHeartbeats 4000000 in
theorem g_L_law_1009 {ad : Nat → Nat} {sb Ls kc ks : Nat} {xs : Nat → Int32} {d : Nat} {Q : Option Value → Wm → Prop} {m : Wm} {x4 : Int32} (h : (vp_in (x4 + (1 : Int32)) Ls ∧ (vp_in (x4 + (2 : Int32)) Ls ∧ (vp_in (x4 + (3 : Int32)) Ls ∧ (Ct ad μX11_wins d [.ref (ad 0), .int (xs (x4 + (1 : Int32)).toNatClampNeg), .int (xs (x4 + (2 : Int32)).toNatClampNeg), .int (xs (x4 + (3 : Int32)).toNatClampNeg)] m (fun r m1 => ∃ v2 : Int32, r = some (.int v2) ∧ (vp_in (x4 + (1 : Int32)) Ls ∧ (vp_in (x4 + (2 : Int32)) Ls ∧ (vp_in (x4 + (3 : Int32)) Ls ∧ (Ct ad μX12_wins d [.ref (ad 187), .int (xs (x4 + (1 : Int32)).toNatClampNeg), .int (xs (x4 + (2 : Int32)).toNatClampNeg), .int (xs (x4 + (3 : Int32)).toNatClampNeg)] m1 (fun r m3 => ∃ v4 : Int32, r = some (.int v4) ∧ AWl LAY ad (EX (SX sb Ls xs) kc ks LAY) μL_law (d + 1) Q 23 [(0, .ref sb), (1, .ref (ad 0)), (2, .ref (ad 187)), (3, .ref (ad 217)), (4, .int (x4 + (6 : Int32)))] [] m3))))))))))) : AWl LAY ad (EX (SX sb Ls xs) (kc + 1) (ks + 6) LAY) μL_law (d + 1) Q 1009 [(0, .ref sb), (1, .ref (ad 0)), (2, .ref (ad 187)), (3, .ref (ad 217)), (4, .int x4)] [] m := by
  refine aw_aload_n (j := 1) dL_law_1009 rfl rfl ?_
  refine aw_aload_n (j := 0) dL_law_1010 rfl rfl ?_
  refine aw_iload (j := 4) dL_law_1011 rfl ?_
  refine aw_iconst (v := 1) dL_law_1013 (by decide) ?_
  refine aw_iadd dL_law_1014 ?_
  obtain ⟨hi, h⟩ := h
  refine aw_sld dL_law_1015 hi ?_
  refine aw_aload_n (j := 0) dL_law_1016 rfl rfl ?_
  refine aw_iload (j := 4) dL_law_1017 rfl ?_
  refine aw_iconst (v := 2) dL_law_1019 (by decide) ?_
  refine aw_iadd dL_law_1020 ?_
  obtain ⟨hi, h⟩ := h
  refine aw_sld dL_law_1021 hi ?_
  refine aw_aload_n (j := 0) dL_law_1022 rfl rfl ?_
  refine aw_iload (j := 4) dL_law_1023 rfl ?_
  refine aw_iconst (v := 3) dL_law_1025 (by decide) ?_
  refine aw_iadd dL_law_1026 ?_
  obtain ⟨hi, h⟩ := h
  refine aw_sld dL_law_1027 hi ?_
  refine aw_callV (rest := []) [.int (xs (x4 + (1 : Int32)).toNatClampNeg), .int (xs (x4 + (2 : Int32)).toNatClampNeg), .int (xs (x4 + (3 : Int32)).toNatClampNeg)] dL_law_1028 ly_0 rfl k_L_136 rfl h (Nat.le_of_ble_eq_true rfl) (fun v m1 h => ?_)
  obtain ⟨v2, rfl, h⟩ := h
  refine aw_eq (L' := [(0, .ref sb), (1, .ref (ad 0)), (2, .ref (ad 187)), (3, .ref (ad 217)), (4, .int x4)]) (st' := [.int v2]) (m' := m1) ?_ rfl rfl rfl
  refine aw_pop dL_law_1031 rfl ?_
  refine aw_aload_n (j := 2) dL_law_1032 rfl rfl ?_
  refine aw_aload_n (j := 0) dL_law_1033 rfl rfl ?_
  refine aw_iload (j := 4) dL_law_1034 rfl ?_
  refine aw_iconst (v := 1) dL_law_1036 (by decide) ?_
  refine aw_iadd dL_law_1037 ?_
  obtain ⟨hi, h⟩ := h
  refine aw_sld dL_law_1038 hi ?_
  refine aw_aload_n (j := 0) dL_law_1039 rfl rfl ?_
  refine aw_iload (j := 4) dL_law_1040 rfl ?_
  refine aw_iconst (v := 2) dL_law_1042 (by decide) ?_
  refine aw_iadd dL_law_1043 ?_
  obtain ⟨hi, h⟩ := h
  refine aw_sld dL_law_1044 hi ?_
  refine aw_aload_n (j := 0) dL_law_1045 rfl rfl ?_
  refine aw_iload (j := 4) dL_law_1046 rfl ?_
  refine aw_iconst (v := 3) dL_law_1048 (by decide) ?_
  refine aw_iadd dL_law_1049 ?_
  obtain ⟨hi, h⟩ := h
  refine aw_sld dL_law_1050 hi ?_
  refine aw_callV (rest := []) [.int (xs (x4 + (1 : Int32)).toNatClampNeg), .int (xs (x4 + (2 : Int32)).toNatClampNeg), .int (xs (x4 + (3 : Int32)).toNatClampNeg)] dL_law_1051 ly_187 rfl k_L_139 rfl h (Nat.le_of_ble_eq_true rfl) (fun v m3 h => ?_)
  obtain ⟨v4, rfl, h⟩ := h
  refine aw_eq (L' := [(0, .ref sb), (1, .ref (ad 0)), (2, .ref (ad 187)), (3, .ref (ad 217)), (4, .int x4)]) (st' := [.int v4]) (m' := m3) ?_ rfl rfl rfl
  refine aw_pop dL_law_1054 rfl ?_
  refine aw_goto (tgt := 1522) dL_law_1055 (by decide) ?_
  refine aw_iinc (j := 4) (v := x4 + (6 : Int32)) (L' := [(4, .int (x4 + (6 : Int32))), (0, .ref sb), (1, .ref (ad 0)), (2, .ref (ad 187)), (3, .ref (ad 217))]) dL_law_1522 rfl rfl (by decide) rfl ?_
  refine aw_goto (tgt := 23) dL_law_1525 (by decide) ?_
  exact aw_drop (Nat.le_succ _) (Nat.le_add_right _ _) (aw_sub [1, 2, 3, 4, 0] rfl h)
set_option maxRecDepth 100000 in
set_option maxHeartbeats 4000000 in
theorem g_L_law_1058 {ad : Nat → Nat} {sb Ls kc ks : Nat} {xs : Nat → Int32} {d : Nat} {Q : Option Value → Wm → Prop} {m : Wm} {x4 : Int32} (h : (vp_in (x4 + (1 : Int32)) Ls ∧ (Ct ad μX11_hopes d [.ref (ad 0), .int (xs (x4 + (1 : Int32)).toNatClampNeg)] m (fun r m1 => ∃ v2 : Int32, r = some (.int v2) ∧ (vp_in (x4 + (1 : Int32)) Ls ∧ (Ct ad μX12_hopes d [.ref (ad 187), .int (xs (x4 + (1 : Int32)).toNatClampNeg)] m1 (fun r m3 => ∃ v4 : Int32, r = some (.int v4) ∧ AWl LAY ad (EX (SX sb Ls xs) kc ks LAY) μL_law (d + 1) Q 23 [(0, .ref sb), (1, .ref (ad 0)), (2, .ref (ad 187)), (3, .ref (ad 217)), (4, .int (x4 + (6 : Int32)))] [] m3))))))) : AWl LAY ad (EX (SX sb Ls xs) (kc + 1) (ks + 6) LAY) μL_law (d + 1) Q 1058 [(0, .ref sb), (1, .ref (ad 0)), (2, .ref (ad 187)), (3, .ref (ad 217)), (4, .int x4)] [] m := by
  refine aw_aload_n (j := 1) dL_law_1058 rfl rfl ?_
  refine aw_aload_n (j := 0) dL_law_1059 rfl rfl ?_
  refine aw_iload (j := 4) dL_law_1060 rfl ?_
  refine aw_iconst (v := 1) dL_law_1062 (by decide) ?_
  refine aw_iadd dL_law_1063 ?_
  obtain ⟨hi, h⟩ := h
  refine aw_sld dL_law_1064 hi ?_
  refine aw_callV (rest := []) [.int (xs (x4 + (1 : Int32)).toNatClampNeg)] dL_law_1065 ly_0 rfl k_L_140 rfl h (Nat.le_of_ble_eq_true rfl) (fun v m1 h => ?_)
  obtain ⟨v2, rfl, h⟩ := h
  refine aw_eq (L' := [(0, .ref sb), (1, .ref (ad 0)), (2, .ref (ad 187)), (3, .ref (ad 217)), (4, .int x4)]) (st' := [.int v2]) (m' := m1) ?_ rfl rfl rfl
  refine aw_pop dL_law_1068 rfl ?_
  refine aw_aload_n (j := 2) dL_law_1069 rfl rfl ?_
  refine aw_aload_n (j := 0) dL_law_1070 rfl rfl ?_
  refine aw_iload (j := 4) dL_law_1071 rfl ?_
  refine aw_iconst (v := 1) dL_law_1073 (by decide) ?_
  refine aw_iadd dL_law_1074 ?_
  obtain ⟨hi, h⟩ := h
  refine aw_sld dL_law_1075 hi ?_
  refine aw_callV (rest := []) [.int (xs (x4 + (1 : Int32)).toNatClampNeg)] dL_law_1076 ly_187 rfl k_L_143 rfl h (Nat.le_of_ble_eq_true rfl) (fun v m3 h => ?_)
  obtain ⟨v4, rfl, h⟩ := h
  refine aw_eq (L' := [(0, .ref sb), (1, .ref (ad 0)), (2, .ref (ad 187)), (3, .ref (ad 217)), (4, .int x4)]) (st' := [.int v4]) (m' := m3) ?_ rfl rfl rfl
  refine aw_pop dL_law_1079 rfl ?_
  refine aw_goto (tgt := 1522) dL_law_1080 (by decide) ?_
  refine aw_iinc (j := 4) (v := x4 + (6 : Int32)) (L' := [(4, .int (x4 + (6 : Int32))), (0, .ref sb), (1, .ref (ad 0)), (2, .ref (ad 187)), (3, .ref (ad 217))]) dL_law_1522 rfl rfl (by decide) rfl ?_
  refine aw_goto (tgt := 23) dL_law_1525 (by decide) ?_
  exact aw_drop (Nat.le_succ _) (Nat.le_add_right _ _) (aw_sub [1, 2, 3, 4, 0] rfl h)
set_option maxRecDepth 100000 in
set_option maxHeartbeats 4000000 in
theorem g_L_law_1083 {ad : Nat → Nat} {sb Ls kc ks : Nat} {xs : Nat → Int32} {d : Nat} {Q : Option Value → Wm → Prop} {m : Wm} {x4 : Int32} (h : (vp_in (x4 + (1 : Int32)) Ls ∧ (vp_in (x4 + (2 : Int32)) Ls ∧ (vp_in (x4 + (3 : Int32)) Ls ∧ (Ct ad μX11_top d [.ref (ad 0), .int (xs (x4 + (1 : Int32)).toNatClampNeg), .int (xs (x4 + (2 : Int32)).toNatClampNeg), .int (xs (x4 + (3 : Int32)).toNatClampNeg)] m (fun r m1 => ∃ v2 : Int32, r = some (.int v2) ∧ (vp_in (x4 + (1 : Int32)) Ls ∧ (vp_in (x4 + (2 : Int32)) Ls ∧ (vp_in (x4 + (3 : Int32)) Ls ∧ (Ct ad μX12_top d [.ref (ad 187), .int (xs (x4 + (1 : Int32)).toNatClampNeg), .int (xs (x4 + (2 : Int32)).toNatClampNeg), .int (xs (x4 + (3 : Int32)).toNatClampNeg)] m1 (fun r m3 => ∃ v4 : Int32, r = some (.int v4) ∧ AWl LAY ad (EX (SX sb Ls xs) kc ks LAY) μL_law (d + 1) Q 23 [(0, .ref sb), (1, .ref (ad 0)), (2, .ref (ad 187)), (3, .ref (ad 217)), (4, .int (x4 + (6 : Int32)))] [] m3))))))))))) : AWl LAY ad (EX (SX sb Ls xs) (kc + 1) (ks + 6) LAY) μL_law (d + 1) Q 1083 [(0, .ref sb), (1, .ref (ad 0)), (2, .ref (ad 187)), (3, .ref (ad 217)), (4, .int x4)] [] m := by
  refine aw_aload_n (j := 1) dL_law_1083 rfl rfl ?_
  refine aw_aload_n (j := 0) dL_law_1084 rfl rfl ?_
  refine aw_iload (j := 4) dL_law_1085 rfl ?_
  refine aw_iconst (v := 1) dL_law_1087 (by decide) ?_
  refine aw_iadd dL_law_1088 ?_
  obtain ⟨hi, h⟩ := h
  refine aw_sld dL_law_1089 hi ?_
  refine aw_aload_n (j := 0) dL_law_1090 rfl rfl ?_
  refine aw_iload (j := 4) dL_law_1091 rfl ?_
  refine aw_iconst (v := 2) dL_law_1093 (by decide) ?_
  refine aw_iadd dL_law_1094 ?_
  obtain ⟨hi, h⟩ := h
  refine aw_sld dL_law_1095 hi ?_
  refine aw_aload_n (j := 0) dL_law_1096 rfl rfl ?_
  refine aw_iload (j := 4) dL_law_1097 rfl ?_
  refine aw_iconst (v := 3) dL_law_1099 (by decide) ?_
  refine aw_iadd dL_law_1100 ?_
  obtain ⟨hi, h⟩ := h
  refine aw_sld dL_law_1101 hi ?_
  refine aw_callV (rest := []) [.int (xs (x4 + (1 : Int32)).toNatClampNeg), .int (xs (x4 + (2 : Int32)).toNatClampNeg), .int (xs (x4 + (3 : Int32)).toNatClampNeg)] dL_law_1102 ly_0 rfl k_L_144 rfl h (Nat.le_of_ble_eq_true rfl) (fun v m1 h => ?_)
  obtain ⟨v2, rfl, h⟩ := h
  refine aw_eq (L' := [(0, .ref sb), (1, .ref (ad 0)), (2, .ref (ad 187)), (3, .ref (ad 217)), (4, .int x4)]) (st' := [.int v2]) (m' := m1) ?_ rfl rfl rfl
  refine aw_pop dL_law_1105 rfl ?_
  refine aw_aload_n (j := 2) dL_law_1106 rfl rfl ?_
  refine aw_aload_n (j := 0) dL_law_1107 rfl rfl ?_
  refine aw_iload (j := 4) dL_law_1108 rfl ?_
  refine aw_iconst (v := 1) dL_law_1110 (by decide) ?_
  refine aw_iadd dL_law_1111 ?_
  obtain ⟨hi, h⟩ := h
  refine aw_sld dL_law_1112 hi ?_
  refine aw_aload_n (j := 0) dL_law_1113 rfl rfl ?_
  refine aw_iload (j := 4) dL_law_1114 rfl ?_
  refine aw_iconst (v := 2) dL_law_1116 (by decide) ?_
  refine aw_iadd dL_law_1117 ?_
  obtain ⟨hi, h⟩ := h
  refine aw_sld dL_law_1118 hi ?_
  refine aw_aload_n (j := 0) dL_law_1119 rfl rfl ?_
  refine aw_iload (j := 4) dL_law_1120 rfl ?_
  refine aw_iconst (v := 3) dL_law_1122 (by decide) ?_
  refine aw_iadd dL_law_1123 ?_
  obtain ⟨hi, h⟩ := h
  refine aw_sld dL_law_1124 hi ?_
  refine aw_callV (rest := []) [.int (xs (x4 + (1 : Int32)).toNatClampNeg), .int (xs (x4 + (2 : Int32)).toNatClampNeg), .int (xs (x4 + (3 : Int32)).toNatClampNeg)] dL_law_1125 ly_187 rfl k_L_147 rfl h (Nat.le_of_ble_eq_true rfl) (fun v m3 h => ?_)
  obtain ⟨v4, rfl, h⟩ := h
  refine aw_eq (L' := [(0, .ref sb), (1, .ref (ad 0)), (2, .ref (ad 187)), (3, .ref (ad 217)), (4, .int x4)]) (st' := [.int v4]) (m' := m3) ?_ rfl rfl rfl
  refine aw_pop dL_law_1128 rfl ?_
  refine aw_goto (tgt := 1522) dL_law_1129 (by decide) ?_
  refine aw_iinc (j := 4) (v := x4 + (6 : Int32)) (L' := [(4, .int (x4 + (6 : Int32))), (0, .ref sb), (1, .ref (ad 0)), (2, .ref (ad 187)), (3, .ref (ad 217))]) dL_law_1522 rfl rfl (by decide) rfl ?_
  refine aw_goto (tgt := 23) dL_law_1525 (by decide) ?_
  exact aw_drop (Nat.le_succ _) (Nat.le_add_right _ _) (aw_sub [1, 2, 3, 4, 0] rfl h)
set_option maxRecDepth 100000 in
set_option maxHeartbeats 4000000 in
theorem g_L_law_1132 {ad : Nat → Nat} {sb Ls kc ks : Nat} {xs : Nat → Int32} {d : Nat} {Q : Option Value → Wm → Prop} {m : Wm} {x4 : Int32} (h : (vp_in (x4 + (1 : Int32)) Ls ∧ (Ct ad μX11_quick d [.ref (ad 0), .int (xs (x4 + (1 : Int32)).toNatClampNeg)] m (fun r m1 => ∃ v2 : Int32, r = some (.int v2) ∧ (vp_in (x4 + (1 : Int32)) Ls ∧ (Ct ad μX12_quick d [.ref (ad 187), .int (xs (x4 + (1 : Int32)).toNatClampNeg)] m1 (fun r m3 => ∃ v4 : Int32, r = some (.int v4) ∧ AWl LAY ad (EX (SX sb Ls xs) kc ks LAY) μL_law (d + 1) Q 23 [(0, .ref sb), (1, .ref (ad 0)), (2, .ref (ad 187)), (3, .ref (ad 217)), (4, .int (x4 + (6 : Int32)))] [] m3))))))) : AWl LAY ad (EX (SX sb Ls xs) (kc + 1) (ks + 6) LAY) μL_law (d + 1) Q 1132 [(0, .ref sb), (1, .ref (ad 0)), (2, .ref (ad 187)), (3, .ref (ad 217)), (4, .int x4)] [] m := by
  refine aw_aload_n (j := 1) dL_law_1132 rfl rfl ?_
  refine aw_aload_n (j := 0) dL_law_1133 rfl rfl ?_
  refine aw_iload (j := 4) dL_law_1134 rfl ?_
  refine aw_iconst (v := 1) dL_law_1136 (by decide) ?_
  refine aw_iadd dL_law_1137 ?_
  obtain ⟨hi, h⟩ := h
  refine aw_sld dL_law_1138 hi ?_
  refine aw_callV (rest := []) [.int (xs (x4 + (1 : Int32)).toNatClampNeg)] dL_law_1139 ly_0 rfl k_L_148 rfl h (Nat.le_of_ble_eq_true rfl) (fun v m1 h => ?_)
  obtain ⟨v2, rfl, h⟩ := h
  refine aw_eq (L' := [(0, .ref sb), (1, .ref (ad 0)), (2, .ref (ad 187)), (3, .ref (ad 217)), (4, .int x4)]) (st' := [.int v2]) (m' := m1) ?_ rfl rfl rfl
  refine aw_pop dL_law_1142 rfl ?_
  refine aw_aload_n (j := 2) dL_law_1143 rfl rfl ?_
  refine aw_aload_n (j := 0) dL_law_1144 rfl rfl ?_
  refine aw_iload (j := 4) dL_law_1145 rfl ?_
  refine aw_iconst (v := 1) dL_law_1147 (by decide) ?_
  refine aw_iadd dL_law_1148 ?_
  obtain ⟨hi, h⟩ := h
  refine aw_sld dL_law_1149 hi ?_
  refine aw_callV (rest := []) [.int (xs (x4 + (1 : Int32)).toNatClampNeg)] dL_law_1150 ly_187 rfl k_L_151 rfl h (Nat.le_of_ble_eq_true rfl) (fun v m3 h => ?_)
  obtain ⟨v4, rfl, h⟩ := h
  refine aw_eq (L' := [(0, .ref sb), (1, .ref (ad 0)), (2, .ref (ad 187)), (3, .ref (ad 217)), (4, .int x4)]) (st' := [.int v4]) (m' := m3) ?_ rfl rfl rfl
  refine aw_pop dL_law_1153 rfl ?_
  refine aw_goto (tgt := 1522) dL_law_1154 (by decide) ?_
  refine aw_iinc (j := 4) (v := x4 + (6 : Int32)) (L' := [(4, .int (x4 + (6 : Int32))), (0, .ref sb), (1, .ref (ad 0)), (2, .ref (ad 187)), (3, .ref (ad 217))]) dL_law_1522 rfl rfl (by decide) rfl ?_
  refine aw_goto (tgt := 23) dL_law_1525 (by decide) ?_
  exact aw_drop (Nat.le_succ _) (Nat.le_add_right _ _) (aw_sub [1, 2, 3, 4, 0] rfl h)
set_option maxRecDepth 100000 in
set_option maxHeartbeats 4000000 in
theorem g_L_law_1157 {ad : Nat → Nat} {sb Ls kc ks : Nat} {xs : Nat → Int32} {d : Nat} {Q : Option Value → Wm → Prop} {m : Wm} {x4 : Int32} (h : (vp_in (x4 + (1 : Int32)) Ls ∧ (vp_in (x4 + (2 : Int32)) Ls ∧ (Ct ad μX11_best d [.ref (ad 0), .int (xs (x4 + (1 : Int32)).toNatClampNeg), .int (xs (x4 + (2 : Int32)).toNatClampNeg)] m (fun r m1 => ∃ v2 : Int32, r = some (.int v2) ∧ (vp_in (x4 + (1 : Int32)) Ls ∧ (vp_in (x4 + (2 : Int32)) Ls ∧ (Ct ad μX12_best d [.ref (ad 187), .int (xs (x4 + (1 : Int32)).toNatClampNeg), .int (xs (x4 + (2 : Int32)).toNatClampNeg)] m1 (fun r m3 => ∃ v4 : Int32, r = some (.int v4) ∧ AWl LAY ad (EX (SX sb Ls xs) kc ks LAY) μL_law (d + 1) Q 23 [(0, .ref sb), (1, .ref (ad 0)), (2, .ref (ad 187)), (3, .ref (ad 217)), (4, .int (x4 + (6 : Int32)))] [] m3))))))))) : AWl LAY ad (EX (SX sb Ls xs) (kc + 1) (ks + 6) LAY) μL_law (d + 1) Q 1157 [(0, .ref sb), (1, .ref (ad 0)), (2, .ref (ad 187)), (3, .ref (ad 217)), (4, .int x4)] [] m := by
  refine aw_aload_n (j := 1) dL_law_1157 rfl rfl ?_
  refine aw_aload_n (j := 0) dL_law_1158 rfl rfl ?_
  refine aw_iload (j := 4) dL_law_1159 rfl ?_
  refine aw_iconst (v := 1) dL_law_1161 (by decide) ?_
  refine aw_iadd dL_law_1162 ?_
  obtain ⟨hi, h⟩ := h
  refine aw_sld dL_law_1163 hi ?_
  refine aw_aload_n (j := 0) dL_law_1164 rfl rfl ?_
  refine aw_iload (j := 4) dL_law_1165 rfl ?_
  refine aw_iconst (v := 2) dL_law_1167 (by decide) ?_
  refine aw_iadd dL_law_1168 ?_
  obtain ⟨hi, h⟩ := h
  refine aw_sld dL_law_1169 hi ?_
  refine aw_callV (rest := []) [.int (xs (x4 + (1 : Int32)).toNatClampNeg), .int (xs (x4 + (2 : Int32)).toNatClampNeg)] dL_law_1170 ly_0 rfl k_L_152 rfl h (Nat.le_of_ble_eq_true rfl) (fun v m1 h => ?_)
  obtain ⟨v2, rfl, h⟩ := h
  refine aw_eq (L' := [(0, .ref sb), (1, .ref (ad 0)), (2, .ref (ad 187)), (3, .ref (ad 217)), (4, .int x4)]) (st' := [.int v2]) (m' := m1) ?_ rfl rfl rfl
  refine aw_pop dL_law_1173 rfl ?_
  refine aw_aload_n (j := 2) dL_law_1174 rfl rfl ?_
  refine aw_aload_n (j := 0) dL_law_1175 rfl rfl ?_
  refine aw_iload (j := 4) dL_law_1176 rfl ?_
  refine aw_iconst (v := 1) dL_law_1178 (by decide) ?_
  refine aw_iadd dL_law_1179 ?_
  obtain ⟨hi, h⟩ := h
  refine aw_sld dL_law_1180 hi ?_
  refine aw_aload_n (j := 0) dL_law_1181 rfl rfl ?_
  refine aw_iload (j := 4) dL_law_1182 rfl ?_
  refine aw_iconst (v := 2) dL_law_1184 (by decide) ?_
  refine aw_iadd dL_law_1185 ?_
  obtain ⟨hi, h⟩ := h
  refine aw_sld dL_law_1186 hi ?_
  refine aw_callV (rest := []) [.int (xs (x4 + (1 : Int32)).toNatClampNeg), .int (xs (x4 + (2 : Int32)).toNatClampNeg)] dL_law_1187 ly_187 rfl k_L_155 rfl h (Nat.le_of_ble_eq_true rfl) (fun v m3 h => ?_)
  obtain ⟨v4, rfl, h⟩ := h
  refine aw_eq (L' := [(0, .ref sb), (1, .ref (ad 0)), (2, .ref (ad 187)), (3, .ref (ad 217)), (4, .int x4)]) (st' := [.int v4]) (m' := m3) ?_ rfl rfl rfl
  refine aw_pop dL_law_1190 rfl ?_
  refine aw_goto (tgt := 1522) dL_law_1191 (by decide) ?_
  refine aw_iinc (j := 4) (v := x4 + (6 : Int32)) (L' := [(4, .int (x4 + (6 : Int32))), (0, .ref sb), (1, .ref (ad 0)), (2, .ref (ad 187)), (3, .ref (ad 217))]) dL_law_1522 rfl rfl (by decide) rfl ?_
  refine aw_goto (tgt := 23) dL_law_1525 (by decide) ?_
  exact aw_drop (Nat.le_succ _) (Nat.le_add_right _ _) (aw_sub [1, 2, 3, 4, 0] rfl h)
set_option maxRecDepth 100000 in
set_option maxHeartbeats 4000000 in
theorem g_L_law_1194 {ad : Nat → Nat} {sb Ls kc ks : Nat} {xs : Nat → Int32} {d : Nat} {Q : Option Value → Wm → Prop} {m : Wm} {x4 : Int32} (h : (vp_in (x4 + (1 : Int32)) Ls ∧ (Ct ad μX11_even d [.ref (ad 0), .int (xs (x4 + (1 : Int32)).toNatClampNeg)] m (fun r m1 => ∃ v2 : Int32, r = some (.int v2) ∧ (vp_in (x4 + (1 : Int32)) Ls ∧ (Ct ad μX12_even d [.ref (ad 187), .int (xs (x4 + (1 : Int32)).toNatClampNeg)] m1 (fun r m3 => ∃ v4 : Int32, r = some (.int v4) ∧ AWl LAY ad (EX (SX sb Ls xs) kc ks LAY) μL_law (d + 1) Q 23 [(0, .ref sb), (1, .ref (ad 0)), (2, .ref (ad 187)), (3, .ref (ad 217)), (4, .int (x4 + (6 : Int32)))] [] m3))))))) : AWl LAY ad (EX (SX sb Ls xs) (kc + 1) (ks + 6) LAY) μL_law (d + 1) Q 1194 [(0, .ref sb), (1, .ref (ad 0)), (2, .ref (ad 187)), (3, .ref (ad 217)), (4, .int x4)] [] m := by
  refine aw_aload_n (j := 1) dL_law_1194 rfl rfl ?_
  refine aw_aload_n (j := 0) dL_law_1195 rfl rfl ?_
  refine aw_iload (j := 4) dL_law_1196 rfl ?_
  refine aw_iconst (v := 1) dL_law_1198 (by decide) ?_
  refine aw_iadd dL_law_1199 ?_
  obtain ⟨hi, h⟩ := h
  refine aw_sld dL_law_1200 hi ?_
  refine aw_callV (rest := []) [.int (xs (x4 + (1 : Int32)).toNatClampNeg)] dL_law_1201 ly_0 rfl k_L_156 rfl h (Nat.le_of_ble_eq_true rfl) (fun v m1 h => ?_)
  obtain ⟨v2, rfl, h⟩ := h
  refine aw_eq (L' := [(0, .ref sb), (1, .ref (ad 0)), (2, .ref (ad 187)), (3, .ref (ad 217)), (4, .int x4)]) (st' := [.int v2]) (m' := m1) ?_ rfl rfl rfl
  refine aw_pop dL_law_1204 rfl ?_
  refine aw_aload_n (j := 2) dL_law_1205 rfl rfl ?_
  refine aw_aload_n (j := 0) dL_law_1206 rfl rfl ?_
  refine aw_iload (j := 4) dL_law_1207 rfl ?_
  refine aw_iconst (v := 1) dL_law_1209 (by decide) ?_
  refine aw_iadd dL_law_1210 ?_
  obtain ⟨hi, h⟩ := h
  refine aw_sld dL_law_1211 hi ?_
  refine aw_callV (rest := []) [.int (xs (x4 + (1 : Int32)).toNatClampNeg)] dL_law_1212 ly_187 rfl k_L_159 rfl h (Nat.le_of_ble_eq_true rfl) (fun v m3 h => ?_)
  obtain ⟨v4, rfl, h⟩ := h
  refine aw_eq (L' := [(0, .ref sb), (1, .ref (ad 0)), (2, .ref (ad 187)), (3, .ref (ad 217)), (4, .int x4)]) (st' := [.int v4]) (m' := m3) ?_ rfl rfl rfl
  refine aw_pop dL_law_1215 rfl ?_
  refine aw_goto (tgt := 1522) dL_law_1216 (by decide) ?_
  refine aw_iinc (j := 4) (v := x4 + (6 : Int32)) (L' := [(4, .int (x4 + (6 : Int32))), (0, .ref sb), (1, .ref (ad 0)), (2, .ref (ad 187)), (3, .ref (ad 217))]) dL_law_1522 rfl rfl (by decide) rfl ?_
  refine aw_goto (tgt := 23) dL_law_1525 (by decide) ?_
  exact aw_drop (Nat.le_succ _) (Nat.le_add_right _ _) (aw_sub [1, 2, 3, 4, 0] rfl h)
set_option maxRecDepth 100000 in
set_option maxHeartbeats 4000000 in
theorem g_L_law_1219 {ad : Nat → Nat} {sb Ls kc ks : Nat} {xs : Nat → Int32} {d : Nat} {Q : Option Value → Wm → Prop} {m : Wm} {x4 : Int32} (h : (Ct ad μX11_all d [.ref (ad 0)] m (fun r m1 => ∃ v2 : Int32, r = some (.int v2) ∧ (Ct ad μX12_all d [.ref (ad 187)] m1 (fun r m3 => ∃ v4 : Int32, r = some (.int v4) ∧ AWl LAY ad (EX (SX sb Ls xs) kc ks LAY) μL_law (d + 1) Q 23 [(0, .ref sb), (1, .ref (ad 0)), (2, .ref (ad 187)), (3, .ref (ad 217)), (4, .int (x4 + (6 : Int32)))] [] m3))))) : AWl LAY ad (EX (SX sb Ls xs) (kc + 1) (ks + 6) LAY) μL_law (d + 1) Q 1219 [(0, .ref sb), (1, .ref (ad 0)), (2, .ref (ad 187)), (3, .ref (ad 217)), (4, .int x4)] [] m := by
  refine aw_aload_n (j := 1) dL_law_1219 rfl rfl ?_
  refine aw_callV (rest := []) [] dL_law_1220 ly_0 rfl k_L_160 rfl h (Nat.le_of_ble_eq_true rfl) (fun v m1 h => ?_)
  obtain ⟨v2, rfl, h⟩ := h
  refine aw_eq (L' := [(0, .ref sb), (1, .ref (ad 0)), (2, .ref (ad 187)), (3, .ref (ad 217)), (4, .int x4)]) (st' := [.int v2]) (m' := m1) ?_ rfl rfl rfl
  refine aw_pop dL_law_1223 rfl ?_
  refine aw_aload_n (j := 2) dL_law_1224 rfl rfl ?_
  refine aw_callV (rest := []) [] dL_law_1225 ly_187 rfl k_L_163 rfl h (Nat.le_of_ble_eq_true rfl) (fun v m3 h => ?_)
  obtain ⟨v4, rfl, h⟩ := h
  refine aw_eq (L' := [(0, .ref sb), (1, .ref (ad 0)), (2, .ref (ad 187)), (3, .ref (ad 217)), (4, .int x4)]) (st' := [.int v4]) (m' := m3) ?_ rfl rfl rfl
  refine aw_pop dL_law_1228 rfl ?_
  refine aw_goto (tgt := 1522) dL_law_1229 (by decide) ?_
  refine aw_iinc (j := 4) (v := x4 + (6 : Int32)) (L' := [(4, .int (x4 + (6 : Int32))), (0, .ref sb), (1, .ref (ad 0)), (2, .ref (ad 187)), (3, .ref (ad 217))]) dL_law_1522 rfl rfl (by decide) rfl ?_
  refine aw_goto (tgt := 23) dL_law_1525 (by decide) ?_
  exact aw_drop (Nat.le_succ _) (Nat.le_add_right _ _) (aw_sub [1, 2, 3, 4, 0] rfl h)
set_option maxRecDepth 100000 in
set_option maxHeartbeats 4000000 in
theorem g_L_law_1232 {ad : Nat → Nat} {sb Ls kc ks : Nat} {xs : Nat → Int32} {d : Nat} {Q : Option Value → Wm → Prop} {m : Wm} {x4 : Int32} (h : (vp_in (x4 + (1 : Int32)) Ls ∧ (Ct ad μX11_next d [.ref (ad 0), .int (xs (x4 + (1 : Int32)).toNatClampNeg)] m (fun r m1 => ∃ v2 : Int32, r = some (.int v2) ∧ (vp_in (x4 + (1 : Int32)) Ls ∧ (Ct ad μX12_next d [.ref (ad 187), .int (xs (x4 + (1 : Int32)).toNatClampNeg)] m1 (fun r m3 => ∃ v4 : Int32, r = some (.int v4) ∧ AWl LAY ad (EX (SX sb Ls xs) kc ks LAY) μL_law (d + 1) Q 23 [(0, .ref sb), (1, .ref (ad 0)), (2, .ref (ad 187)), (3, .ref (ad 217)), (4, .int (x4 + (6 : Int32)))] [] m3))))))) : AWl LAY ad (EX (SX sb Ls xs) (kc + 1) (ks + 6) LAY) μL_law (d + 1) Q 1232 [(0, .ref sb), (1, .ref (ad 0)), (2, .ref (ad 187)), (3, .ref (ad 217)), (4, .int x4)] [] m := by
  refine aw_aload_n (j := 1) dL_law_1232 rfl rfl ?_
  refine aw_aload_n (j := 0) dL_law_1233 rfl rfl ?_
  refine aw_iload (j := 4) dL_law_1234 rfl ?_
  refine aw_iconst (v := 1) dL_law_1236 (by decide) ?_
  refine aw_iadd dL_law_1237 ?_
  obtain ⟨hi, h⟩ := h
  refine aw_sld dL_law_1238 hi ?_
  refine aw_callV (rest := []) [.int (xs (x4 + (1 : Int32)).toNatClampNeg)] dL_law_1239 ly_0 rfl k_L_164 rfl h (Nat.le_of_ble_eq_true rfl) (fun v m1 h => ?_)
  obtain ⟨v2, rfl, h⟩ := h
  refine aw_eq (L' := [(0, .ref sb), (1, .ref (ad 0)), (2, .ref (ad 187)), (3, .ref (ad 217)), (4, .int x4)]) (st' := [.int v2]) (m' := m1) ?_ rfl rfl rfl
  refine aw_pop dL_law_1242 rfl ?_
  refine aw_aload_n (j := 2) dL_law_1243 rfl rfl ?_
  refine aw_aload_n (j := 0) dL_law_1244 rfl rfl ?_
  refine aw_iload (j := 4) dL_law_1245 rfl ?_
  refine aw_iconst (v := 1) dL_law_1247 (by decide) ?_
  refine aw_iadd dL_law_1248 ?_
  obtain ⟨hi, h⟩ := h
  refine aw_sld dL_law_1249 hi ?_
  refine aw_callV (rest := []) [.int (xs (x4 + (1 : Int32)).toNatClampNeg)] dL_law_1250 ly_187 rfl k_L_167 rfl h (Nat.le_of_ble_eq_true rfl) (fun v m3 h => ?_)
  obtain ⟨v4, rfl, h⟩ := h
  refine aw_eq (L' := [(0, .ref sb), (1, .ref (ad 0)), (2, .ref (ad 187)), (3, .ref (ad 217)), (4, .int x4)]) (st' := [.int v4]) (m' := m3) ?_ rfl rfl rfl
  refine aw_pop dL_law_1253 rfl ?_
  refine aw_goto (tgt := 1522) dL_law_1254 (by decide) ?_
  refine aw_iinc (j := 4) (v := x4 + (6 : Int32)) (L' := [(4, .int (x4 + (6 : Int32))), (0, .ref sb), (1, .ref (ad 0)), (2, .ref (ad 187)), (3, .ref (ad 217))]) dL_law_1522 rfl rfl (by decide) rfl ?_
  refine aw_goto (tgt := 23) dL_law_1525 (by decide) ?_
  exact aw_drop (Nat.le_succ _) (Nat.le_add_right _ _) (aw_sub [1, 2, 3, 4, 0] rfl h)
set_option maxRecDepth 100000 in
set_option maxHeartbeats 4000000 in
theorem g_L_law_1257 {ad : Nat → Nat} {sb Ls kc ks : Nat} {xs : Nat → Int32} {d : Nat} {Q : Option Value → Wm → Prop} {m : Wm} {x4 : Int32} (h : (vp_in (x4 + (1 : Int32)) Ls ∧ (vp_in (x4 + (2 : Int32)) Ls ∧ (vp_in (x4 + (3 : Int32)) Ls ∧ (Ct ad μX11_seen d [.ref (ad 0), .int (xs (x4 + (1 : Int32)).toNatClampNeg), .int (xs (x4 + (2 : Int32)).toNatClampNeg), .int (xs (x4 + (3 : Int32)).toNatClampNeg)] m (fun r m1 => ∃ v2 : Int32, r = some (.int v2) ∧ (vp_in (x4 + (1 : Int32)) Ls ∧ (vp_in (x4 + (2 : Int32)) Ls ∧ (vp_in (x4 + (3 : Int32)) Ls ∧ (Ct ad μX12_seen d [.ref (ad 187), .int (xs (x4 + (1 : Int32)).toNatClampNeg), .int (xs (x4 + (2 : Int32)).toNatClampNeg), .int (xs (x4 + (3 : Int32)).toNatClampNeg)] m1 (fun r m3 => ∃ v4 : Int32, r = some (.int v4) ∧ AWl LAY ad (EX (SX sb Ls xs) kc ks LAY) μL_law (d + 1) Q 23 [(0, .ref sb), (1, .ref (ad 0)), (2, .ref (ad 187)), (3, .ref (ad 217)), (4, .int (x4 + (6 : Int32)))] [] m3))))))))))) : AWl LAY ad (EX (SX sb Ls xs) (kc + 1) (ks + 6) LAY) μL_law (d + 1) Q 1257 [(0, .ref sb), (1, .ref (ad 0)), (2, .ref (ad 187)), (3, .ref (ad 217)), (4, .int x4)] [] m := by
  refine aw_aload_n (j := 1) dL_law_1257 rfl rfl ?_
  refine aw_aload_n (j := 0) dL_law_1258 rfl rfl ?_
  refine aw_iload (j := 4) dL_law_1259 rfl ?_
  refine aw_iconst (v := 1) dL_law_1261 (by decide) ?_
  refine aw_iadd dL_law_1262 ?_
  obtain ⟨hi, h⟩ := h
  refine aw_sld dL_law_1263 hi ?_
  refine aw_aload_n (j := 0) dL_law_1264 rfl rfl ?_
  refine aw_iload (j := 4) dL_law_1265 rfl ?_
  refine aw_iconst (v := 2) dL_law_1267 (by decide) ?_
  refine aw_iadd dL_law_1268 ?_
  obtain ⟨hi, h⟩ := h
  refine aw_sld dL_law_1269 hi ?_
  refine aw_aload_n (j := 0) dL_law_1270 rfl rfl ?_
  refine aw_iload (j := 4) dL_law_1271 rfl ?_
  refine aw_iconst (v := 3) dL_law_1273 (by decide) ?_
  refine aw_iadd dL_law_1274 ?_
  obtain ⟨hi, h⟩ := h
  refine aw_sld dL_law_1275 hi ?_
  refine aw_callV (rest := []) [.int (xs (x4 + (1 : Int32)).toNatClampNeg), .int (xs (x4 + (2 : Int32)).toNatClampNeg), .int (xs (x4 + (3 : Int32)).toNatClampNeg)] dL_law_1276 ly_0 rfl k_L_168 rfl h (Nat.le_of_ble_eq_true rfl) (fun v m1 h => ?_)
  obtain ⟨v2, rfl, h⟩ := h
  refine aw_eq (L' := [(0, .ref sb), (1, .ref (ad 0)), (2, .ref (ad 187)), (3, .ref (ad 217)), (4, .int x4)]) (st' := [.int v2]) (m' := m1) ?_ rfl rfl rfl
  refine aw_pop dL_law_1279 rfl ?_
  refine aw_aload_n (j := 2) dL_law_1280 rfl rfl ?_
  refine aw_aload_n (j := 0) dL_law_1281 rfl rfl ?_
  refine aw_iload (j := 4) dL_law_1282 rfl ?_
  refine aw_iconst (v := 1) dL_law_1284 (by decide) ?_
  refine aw_iadd dL_law_1285 ?_
  obtain ⟨hi, h⟩ := h
  refine aw_sld dL_law_1286 hi ?_
  refine aw_aload_n (j := 0) dL_law_1287 rfl rfl ?_
  refine aw_iload (j := 4) dL_law_1288 rfl ?_
  refine aw_iconst (v := 2) dL_law_1290 (by decide) ?_
  refine aw_iadd dL_law_1291 ?_
  obtain ⟨hi, h⟩ := h
  refine aw_sld dL_law_1292 hi ?_
  refine aw_aload_n (j := 0) dL_law_1293 rfl rfl ?_
  refine aw_iload (j := 4) dL_law_1294 rfl ?_
  refine aw_iconst (v := 3) dL_law_1296 (by decide) ?_
  refine aw_iadd dL_law_1297 ?_
  obtain ⟨hi, h⟩ := h
  refine aw_sld dL_law_1298 hi ?_
  refine aw_callV (rest := []) [.int (xs (x4 + (1 : Int32)).toNatClampNeg), .int (xs (x4 + (2 : Int32)).toNatClampNeg), .int (xs (x4 + (3 : Int32)).toNatClampNeg)] dL_law_1299 ly_187 rfl k_L_171 rfl h (Nat.le_of_ble_eq_true rfl) (fun v m3 h => ?_)
  obtain ⟨v4, rfl, h⟩ := h
  refine aw_eq (L' := [(0, .ref sb), (1, .ref (ad 0)), (2, .ref (ad 187)), (3, .ref (ad 217)), (4, .int x4)]) (st' := [.int v4]) (m' := m3) ?_ rfl rfl rfl
  refine aw_pop dL_law_1302 rfl ?_
  refine aw_goto (tgt := 1522) dL_law_1303 (by decide) ?_
  refine aw_iinc (j := 4) (v := x4 + (6 : Int32)) (L' := [(4, .int (x4 + (6 : Int32))), (0, .ref sb), (1, .ref (ad 0)), (2, .ref (ad 187)), (3, .ref (ad 217))]) dL_law_1522 rfl rfl (by decide) rfl ?_
  refine aw_goto (tgt := 23) dL_law_1525 (by decide) ?_
  exact aw_drop (Nat.le_succ _) (Nat.le_add_right _ _) (aw_sub [1, 2, 3, 4, 0] rfl h)
set_option maxRecDepth 100000 in
set_option maxHeartbeats 4000000 in
theorem g_L_law_1306 {ad : Nat → Nat} {sb Ls kc ks : Nat} {xs : Nat → Int32} {d : Nat} {Q : Option Value → Wm → Prop} {m : Wm} {x4 : Int32} (h : (Ct ad μX11_found d [.ref (ad 0)] m (fun r m1 => ∃ v2 : Int32, r = some (.int v2) ∧ (Ct ad μX12_found d [.ref (ad 187)] m1 (fun r m3 => ∃ v4 : Int32, r = some (.int v4) ∧ AWl LAY ad (EX (SX sb Ls xs) kc ks LAY) μL_law (d + 1) Q 23 [(0, .ref sb), (1, .ref (ad 0)), (2, .ref (ad 187)), (3, .ref (ad 217)), (4, .int (x4 + (6 : Int32)))] [] m3))))) : AWl LAY ad (EX (SX sb Ls xs) (kc + 1) (ks + 6) LAY) μL_law (d + 1) Q 1306 [(0, .ref sb), (1, .ref (ad 0)), (2, .ref (ad 187)), (3, .ref (ad 217)), (4, .int x4)] [] m := by
  refine aw_aload_n (j := 1) dL_law_1306 rfl rfl ?_
  refine aw_callV (rest := []) [] dL_law_1307 ly_0 rfl k_L_172 rfl h (Nat.le_of_ble_eq_true rfl) (fun v m1 h => ?_)
  obtain ⟨v2, rfl, h⟩ := h
  refine aw_eq (L' := [(0, .ref sb), (1, .ref (ad 0)), (2, .ref (ad 187)), (3, .ref (ad 217)), (4, .int x4)]) (st' := [.int v2]) (m' := m1) ?_ rfl rfl rfl
  refine aw_pop dL_law_1310 rfl ?_
  refine aw_aload_n (j := 2) dL_law_1311 rfl rfl ?_
  refine aw_callV (rest := []) [] dL_law_1312 ly_187 rfl k_L_175 rfl h (Nat.le_of_ble_eq_true rfl) (fun v m3 h => ?_)
  obtain ⟨v4, rfl, h⟩ := h
  refine aw_eq (L' := [(0, .ref sb), (1, .ref (ad 0)), (2, .ref (ad 187)), (3, .ref (ad 217)), (4, .int x4)]) (st' := [.int v4]) (m' := m3) ?_ rfl rfl rfl
  refine aw_pop dL_law_1315 rfl ?_
  refine aw_goto (tgt := 1522) dL_law_1316 (by decide) ?_
  refine aw_iinc (j := 4) (v := x4 + (6 : Int32)) (L' := [(4, .int (x4 + (6 : Int32))), (0, .ref sb), (1, .ref (ad 0)), (2, .ref (ad 187)), (3, .ref (ad 217))]) dL_law_1522 rfl rfl (by decide) rfl ?_
  refine aw_goto (tgt := 23) dL_law_1525 (by decide) ?_
  exact aw_drop (Nat.le_succ _) (Nat.le_add_right _ _) (aw_sub [1, 2, 3, 4, 0] rfl h)
set_option maxRecDepth 100000 in
set_option maxHeartbeats 4000000 in
theorem g_L_law_1319 {ad : Nat → Nat} {sb Ls kc ks : Nat} {xs : Nat → Int32} {d : Nat} {Q : Option Value → Wm → Prop} {m : Wm} {x4 : Int32} (h : (Ct ad μX11_prize d [.ref (ad 0)] m (fun r m1 => ∃ v2 : Int32, r = some (.int v2) ∧ (Ct ad μX12_prize d [.ref (ad 187)] m1 (fun r m3 => ∃ v4 : Int32, r = some (.int v4) ∧ AWl LAY ad (EX (SX sb Ls xs) kc ks LAY) μL_law (d + 1) Q 23 [(0, .ref sb), (1, .ref (ad 0)), (2, .ref (ad 187)), (3, .ref (ad 217)), (4, .int (x4 + (6 : Int32)))] [] m3))))) : AWl LAY ad (EX (SX sb Ls xs) (kc + 1) (ks + 6) LAY) μL_law (d + 1) Q 1319 [(0, .ref sb), (1, .ref (ad 0)), (2, .ref (ad 187)), (3, .ref (ad 217)), (4, .int x4)] [] m := by
  refine aw_aload_n (j := 1) dL_law_1319 rfl rfl ?_
  refine aw_callV (rest := []) [] dL_law_1320 ly_0 rfl k_L_176 rfl h (Nat.le_of_ble_eq_true rfl) (fun v m1 h => ?_)
  obtain ⟨v2, rfl, h⟩ := h
  refine aw_eq (L' := [(0, .ref sb), (1, .ref (ad 0)), (2, .ref (ad 187)), (3, .ref (ad 217)), (4, .int x4)]) (st' := [.int v2]) (m' := m1) ?_ rfl rfl rfl
  refine aw_pop dL_law_1323 rfl ?_
  refine aw_aload_n (j := 2) dL_law_1324 rfl rfl ?_
  refine aw_callV (rest := []) [] dL_law_1325 ly_187 rfl k_L_179 rfl h (Nat.le_of_ble_eq_true rfl) (fun v m3 h => ?_)
  obtain ⟨v4, rfl, h⟩ := h
  refine aw_eq (L' := [(0, .ref sb), (1, .ref (ad 0)), (2, .ref (ad 187)), (3, .ref (ad 217)), (4, .int x4)]) (st' := [.int v4]) (m' := m3) ?_ rfl rfl rfl
  refine aw_pop dL_law_1328 rfl ?_
  refine aw_goto (tgt := 1522) dL_law_1329 (by decide) ?_
  refine aw_iinc (j := 4) (v := x4 + (6 : Int32)) (L' := [(4, .int (x4 + (6 : Int32))), (0, .ref sb), (1, .ref (ad 0)), (2, .ref (ad 187)), (3, .ref (ad 217))]) dL_law_1522 rfl rfl (by decide) rfl ?_
  refine aw_goto (tgt := 23) dL_law_1525 (by decide) ?_
  exact aw_drop (Nat.le_succ _) (Nat.le_add_right _ _) (aw_sub [1, 2, 3, 4, 0] rfl h)
set_option maxRecDepth 100000 in
set_option maxHeartbeats 4000000 in
theorem g_L_law_1332 {ad : Nat → Nat} {sb Ls kc ks : Nat} {xs : Nat → Int32} {d : Nat} {Q : Option Value → Wm → Prop} {m : Wm} {x4 : Int32} (h : (vp_in (x4 + (1 : Int32)) Ls ∧ (vp_in (x4 + (2 : Int32)) Ls ∧ (Ct ad μX11_pays d [.ref (ad 0), .int (xs (x4 + (1 : Int32)).toNatClampNeg), .int (xs (x4 + (2 : Int32)).toNatClampNeg)] m (fun r m1 => ∃ v2 : Int32, r = some (.int v2) ∧ (vp_in (x4 + (1 : Int32)) Ls ∧ (vp_in (x4 + (2 : Int32)) Ls ∧ (Ct ad μX12_pays d [.ref (ad 187), .int (xs (x4 + (1 : Int32)).toNatClampNeg), .int (xs (x4 + (2 : Int32)).toNatClampNeg)] m1 (fun r m3 => ∃ v4 : Int32, r = some (.int v4) ∧ AWl LAY ad (EX (SX sb Ls xs) kc ks LAY) μL_law (d + 1) Q 23 [(0, .ref sb), (1, .ref (ad 0)), (2, .ref (ad 187)), (3, .ref (ad 217)), (4, .int (x4 + (6 : Int32)))] [] m3))))))))) : AWl LAY ad (EX (SX sb Ls xs) (kc + 1) (ks + 6) LAY) μL_law (d + 1) Q 1332 [(0, .ref sb), (1, .ref (ad 0)), (2, .ref (ad 187)), (3, .ref (ad 217)), (4, .int x4)] [] m := by
  refine aw_aload_n (j := 1) dL_law_1332 rfl rfl ?_
  refine aw_aload_n (j := 0) dL_law_1333 rfl rfl ?_
  refine aw_iload (j := 4) dL_law_1334 rfl ?_
  refine aw_iconst (v := 1) dL_law_1336 (by decide) ?_
  refine aw_iadd dL_law_1337 ?_
  obtain ⟨hi, h⟩ := h
  refine aw_sld dL_law_1338 hi ?_
  refine aw_aload_n (j := 0) dL_law_1339 rfl rfl ?_
  refine aw_iload (j := 4) dL_law_1340 rfl ?_
  refine aw_iconst (v := 2) dL_law_1342 (by decide) ?_
  refine aw_iadd dL_law_1343 ?_
  obtain ⟨hi, h⟩ := h
  refine aw_sld dL_law_1344 hi ?_
  refine aw_callV (rest := []) [.int (xs (x4 + (1 : Int32)).toNatClampNeg), .int (xs (x4 + (2 : Int32)).toNatClampNeg)] dL_law_1345 ly_0 rfl k_L_180 rfl h (Nat.le_of_ble_eq_true rfl) (fun v m1 h => ?_)
  obtain ⟨v2, rfl, h⟩ := h
  refine aw_eq (L' := [(0, .ref sb), (1, .ref (ad 0)), (2, .ref (ad 187)), (3, .ref (ad 217)), (4, .int x4)]) (st' := [.int v2]) (m' := m1) ?_ rfl rfl rfl
  refine aw_pop dL_law_1348 rfl ?_
  refine aw_aload_n (j := 2) dL_law_1349 rfl rfl ?_
  refine aw_aload_n (j := 0) dL_law_1350 rfl rfl ?_
  refine aw_iload (j := 4) dL_law_1351 rfl ?_
  refine aw_iconst (v := 1) dL_law_1353 (by decide) ?_
  refine aw_iadd dL_law_1354 ?_
  obtain ⟨hi, h⟩ := h
  refine aw_sld dL_law_1355 hi ?_
  refine aw_aload_n (j := 0) dL_law_1356 rfl rfl ?_
  refine aw_iload (j := 4) dL_law_1357 rfl ?_
  refine aw_iconst (v := 2) dL_law_1359 (by decide) ?_
  refine aw_iadd dL_law_1360 ?_
  obtain ⟨hi, h⟩ := h
  refine aw_sld dL_law_1361 hi ?_
  refine aw_callV (rest := []) [.int (xs (x4 + (1 : Int32)).toNatClampNeg), .int (xs (x4 + (2 : Int32)).toNatClampNeg)] dL_law_1362 ly_187 rfl k_L_183 rfl h (Nat.le_of_ble_eq_true rfl) (fun v m3 h => ?_)
  obtain ⟨v4, rfl, h⟩ := h
  refine aw_eq (L' := [(0, .ref sb), (1, .ref (ad 0)), (2, .ref (ad 187)), (3, .ref (ad 217)), (4, .int x4)]) (st' := [.int v4]) (m' := m3) ?_ rfl rfl rfl
  refine aw_pop dL_law_1365 rfl ?_
  refine aw_goto (tgt := 1522) dL_law_1366 (by decide) ?_
  refine aw_iinc (j := 4) (v := x4 + (6 : Int32)) (L' := [(4, .int (x4 + (6 : Int32))), (0, .ref sb), (1, .ref (ad 0)), (2, .ref (ad 187)), (3, .ref (ad 217))]) dL_law_1522 rfl rfl (by decide) rfl ?_
  refine aw_goto (tgt := 23) dL_law_1525 (by decide) ?_
  exact aw_drop (Nat.le_succ _) (Nat.le_add_right _ _) (aw_sub [1, 2, 3, 4, 0] rfl h)
set_option maxRecDepth 100000 in
set_option maxHeartbeats 4000000 in
theorem g_L_law_1369 {ad : Nat → Nat} {sb Ls kc ks : Nat} {xs : Nat → Int32} {d : Nat} {Q : Option Value → Wm → Prop} {m : Wm} {x4 : Int32} (h : (vp_in (x4 + (1 : Int32)) Ls ∧ (Ct ad μX11_laws d [.ref (ad 0), .int (xs (x4 + (1 : Int32)).toNatClampNeg)] m (fun r m1 => ∃ v2 : Int32, r = some (.int v2) ∧ (vp_in (x4 + (1 : Int32)) Ls ∧ (Ct ad μX12_laws d [.ref (ad 187), .int (xs (x4 + (1 : Int32)).toNatClampNeg)] m1 (fun r m3 => ∃ v4 : Int32, r = some (.int v4) ∧ AWl LAY ad (EX (SX sb Ls xs) kc ks LAY) μL_law (d + 1) Q 23 [(0, .ref sb), (1, .ref (ad 0)), (2, .ref (ad 187)), (3, .ref (ad 217)), (4, .int (x4 + (6 : Int32)))] [] m3))))))) : AWl LAY ad (EX (SX sb Ls xs) (kc + 1) (ks + 6) LAY) μL_law (d + 1) Q 1369 [(0, .ref sb), (1, .ref (ad 0)), (2, .ref (ad 187)), (3, .ref (ad 217)), (4, .int x4)] [] m := by
  refine aw_aload_n (j := 1) dL_law_1369 rfl rfl ?_
  refine aw_aload_n (j := 0) dL_law_1370 rfl rfl ?_
  refine aw_iload (j := 4) dL_law_1371 rfl ?_
  refine aw_iconst (v := 1) dL_law_1373 (by decide) ?_
  refine aw_iadd dL_law_1374 ?_
  obtain ⟨hi, h⟩ := h
  refine aw_sld dL_law_1375 hi ?_
  refine aw_callV (rest := []) [.int (xs (x4 + (1 : Int32)).toNatClampNeg)] dL_law_1376 ly_0 rfl k_L_184 rfl h (Nat.le_of_ble_eq_true rfl) (fun v m1 h => ?_)
  obtain ⟨v2, rfl, h⟩ := h
  refine aw_eq (L' := [(0, .ref sb), (1, .ref (ad 0)), (2, .ref (ad 187)), (3, .ref (ad 217)), (4, .int x4)]) (st' := [.int v2]) (m' := m1) ?_ rfl rfl rfl
  refine aw_pop dL_law_1379 rfl ?_
  refine aw_aload_n (j := 2) dL_law_1380 rfl rfl ?_
  refine aw_aload_n (j := 0) dL_law_1381 rfl rfl ?_
  refine aw_iload (j := 4) dL_law_1382 rfl ?_
  refine aw_iconst (v := 1) dL_law_1384 (by decide) ?_
  refine aw_iadd dL_law_1385 ?_
  obtain ⟨hi, h⟩ := h
  refine aw_sld dL_law_1386 hi ?_
  refine aw_callV (rest := []) [.int (xs (x4 + (1 : Int32)).toNatClampNeg)] dL_law_1387 ly_187 rfl k_L_187 rfl h (Nat.le_of_ble_eq_true rfl) (fun v m3 h => ?_)
  obtain ⟨v4, rfl, h⟩ := h
  refine aw_eq (L' := [(0, .ref sb), (1, .ref (ad 0)), (2, .ref (ad 187)), (3, .ref (ad 217)), (4, .int x4)]) (st' := [.int v4]) (m' := m3) ?_ rfl rfl rfl
  refine aw_pop dL_law_1390 rfl ?_
  refine aw_goto (tgt := 1522) dL_law_1391 (by decide) ?_
  refine aw_iinc (j := 4) (v := x4 + (6 : Int32)) (L' := [(4, .int (x4 + (6 : Int32))), (0, .ref sb), (1, .ref (ad 0)), (2, .ref (ad 187)), (3, .ref (ad 217))]) dL_law_1522 rfl rfl (by decide) rfl ?_
  refine aw_goto (tgt := 23) dL_law_1525 (by decide) ?_
  exact aw_drop (Nat.le_succ _) (Nat.le_add_right _ _) (aw_sub [1, 2, 3, 4, 0] rfl h)
set_option maxRecDepth 100000 in
set_option maxHeartbeats 4000000 in
theorem g_L_law_1394 {ad : Nat → Nat} {sb Ls kc ks : Nat} {xs : Nat → Int32} {d : Nat} {Q : Option Value → Wm → Prop} {m : Wm} {x4 : Int32} (h : (vp_in (x4 + (1 : Int32)) Ls ∧ (Ct ad μX11_seed d [.ref (ad 0), .int (xs (x4 + (1 : Int32)).toNatClampNeg)] m (fun r m1 => ∃ v2 : Int32, r = some (.int v2) ∧ (vp_in (x4 + (1 : Int32)) Ls ∧ (Ct ad μX12_seed d [.ref (ad 187), .int (xs (x4 + (1 : Int32)).toNatClampNeg)] m1 (fun r m3 => ∃ v4 : Int32, r = some (.int v4) ∧ AWl LAY ad (EX (SX sb Ls xs) kc ks LAY) μL_law (d + 1) Q 23 [(0, .ref sb), (1, .ref (ad 0)), (2, .ref (ad 187)), (3, .ref (ad 217)), (4, .int (x4 + (6 : Int32)))] [] m3))))))) : AWl LAY ad (EX (SX sb Ls xs) (kc + 1) (ks + 6) LAY) μL_law (d + 1) Q 1394 [(0, .ref sb), (1, .ref (ad 0)), (2, .ref (ad 187)), (3, .ref (ad 217)), (4, .int x4)] [] m := by
  refine aw_aload_n (j := 1) dL_law_1394 rfl rfl ?_
  refine aw_aload_n (j := 0) dL_law_1395 rfl rfl ?_
  refine aw_iload (j := 4) dL_law_1396 rfl ?_
  refine aw_iconst (v := 1) dL_law_1398 (by decide) ?_
  refine aw_iadd dL_law_1399 ?_
  obtain ⟨hi, h⟩ := h
  refine aw_sld dL_law_1400 hi ?_
  refine aw_callV (rest := []) [.int (xs (x4 + (1 : Int32)).toNatClampNeg)] dL_law_1401 ly_0 rfl k_L_188 rfl h (Nat.le_of_ble_eq_true rfl) (fun v m1 h => ?_)
  obtain ⟨v2, rfl, h⟩ := h
  refine aw_eq (L' := [(0, .ref sb), (1, .ref (ad 0)), (2, .ref (ad 187)), (3, .ref (ad 217)), (4, .int x4)]) (st' := [.int v2]) (m' := m1) ?_ rfl rfl rfl
  refine aw_pop dL_law_1404 rfl ?_
  refine aw_aload_n (j := 2) dL_law_1405 rfl rfl ?_
  refine aw_aload_n (j := 0) dL_law_1406 rfl rfl ?_
  refine aw_iload (j := 4) dL_law_1407 rfl ?_
  refine aw_iconst (v := 1) dL_law_1409 (by decide) ?_
  refine aw_iadd dL_law_1410 ?_
  obtain ⟨hi, h⟩ := h
  refine aw_sld dL_law_1411 hi ?_
  refine aw_callV (rest := []) [.int (xs (x4 + (1 : Int32)).toNatClampNeg)] dL_law_1412 ly_187 rfl k_L_191 rfl h (Nat.le_of_ble_eq_true rfl) (fun v m3 h => ?_)
  obtain ⟨v4, rfl, h⟩ := h
  refine aw_eq (L' := [(0, .ref sb), (1, .ref (ad 0)), (2, .ref (ad 187)), (3, .ref (ad 217)), (4, .int x4)]) (st' := [.int v4]) (m' := m3) ?_ rfl rfl rfl
  refine aw_pop dL_law_1415 rfl ?_
  refine aw_goto (tgt := 1522) dL_law_1416 (by decide) ?_
  refine aw_iinc (j := 4) (v := x4 + (6 : Int32)) (L' := [(4, .int (x4 + (6 : Int32))), (0, .ref sb), (1, .ref (ad 0)), (2, .ref (ad 187)), (3, .ref (ad 217))]) dL_law_1522 rfl rfl (by decide) rfl ?_
  refine aw_goto (tgt := 23) dL_law_1525 (by decide) ?_
  exact aw_drop (Nat.le_succ _) (Nat.le_add_right _ _) (aw_sub [1, 2, 3, 4, 0] rfl h)
set_option maxRecDepth 100000 in
set_option maxHeartbeats 4000000 in
theorem g_L_law_1419 {ad : Nat → Nat} {sb Ls kc ks : Nat} {xs : Nat → Int32} {d : Nat} {Q : Option Value → Wm → Prop} {m : Wm} {x4 : Int32} (h : (vp_in (x4 + (1 : Int32)) Ls ∧ (Ct ad μX11_keep d [.ref (ad 0), .int (xs (x4 + (1 : Int32)).toNatClampNeg)] m (fun r m1 => ∃ v2 : Int32, r = some (.int v2) ∧ (vp_in (x4 + (1 : Int32)) Ls ∧ (Ct ad μX12_keep d [.ref (ad 187), .int (xs (x4 + (1 : Int32)).toNatClampNeg)] m1 (fun r m3 => ∃ v4 : Int32, r = some (.int v4) ∧ AWl LAY ad (EX (SX sb Ls xs) kc ks LAY) μL_law (d + 1) Q 23 [(0, .ref sb), (1, .ref (ad 0)), (2, .ref (ad 187)), (3, .ref (ad 217)), (4, .int (x4 + (6 : Int32)))] [] m3))))))) : AWl LAY ad (EX (SX sb Ls xs) (kc + 1) (ks + 6) LAY) μL_law (d + 1) Q 1419 [(0, .ref sb), (1, .ref (ad 0)), (2, .ref (ad 187)), (3, .ref (ad 217)), (4, .int x4)] [] m := by
  refine aw_aload_n (j := 1) dL_law_1419 rfl rfl ?_
  refine aw_aload_n (j := 0) dL_law_1420 rfl rfl ?_
  refine aw_iload (j := 4) dL_law_1421 rfl ?_
  refine aw_iconst (v := 1) dL_law_1423 (by decide) ?_
  refine aw_iadd dL_law_1424 ?_
  obtain ⟨hi, h⟩ := h
  refine aw_sld dL_law_1425 hi ?_
  refine aw_callV (rest := []) [.int (xs (x4 + (1 : Int32)).toNatClampNeg)] dL_law_1426 ly_0 rfl k_L_192 rfl h (Nat.le_of_ble_eq_true rfl) (fun v m1 h => ?_)
  obtain ⟨v2, rfl, h⟩ := h
  refine aw_eq (L' := [(0, .ref sb), (1, .ref (ad 0)), (2, .ref (ad 187)), (3, .ref (ad 217)), (4, .int x4)]) (st' := [.int v2]) (m' := m1) ?_ rfl rfl rfl
  refine aw_pop dL_law_1429 rfl ?_
  refine aw_aload_n (j := 2) dL_law_1430 rfl rfl ?_
  refine aw_aload_n (j := 0) dL_law_1431 rfl rfl ?_
  refine aw_iload (j := 4) dL_law_1432 rfl ?_
  refine aw_iconst (v := 1) dL_law_1434 (by decide) ?_
  refine aw_iadd dL_law_1435 ?_
  obtain ⟨hi, h⟩ := h
  refine aw_sld dL_law_1436 hi ?_
  refine aw_callV (rest := []) [.int (xs (x4 + (1 : Int32)).toNatClampNeg)] dL_law_1437 ly_187 rfl k_L_195 rfl h (Nat.le_of_ble_eq_true rfl) (fun v m3 h => ?_)
  obtain ⟨v4, rfl, h⟩ := h
  refine aw_eq (L' := [(0, .ref sb), (1, .ref (ad 0)), (2, .ref (ad 187)), (3, .ref (ad 217)), (4, .int x4)]) (st' := [.int v4]) (m' := m3) ?_ rfl rfl rfl
  refine aw_pop dL_law_1440 rfl ?_
  refine aw_goto (tgt := 1522) dL_law_1441 (by decide) ?_
  refine aw_iinc (j := 4) (v := x4 + (6 : Int32)) (L' := [(4, .int (x4 + (6 : Int32))), (0, .ref sb), (1, .ref (ad 0)), (2, .ref (ad 187)), (3, .ref (ad 217))]) dL_law_1522 rfl rfl (by decide) rfl ?_
  refine aw_goto (tgt := 23) dL_law_1525 (by decide) ?_
  exact aw_drop (Nat.le_succ _) (Nat.le_add_right _ _) (aw_sub [1, 2, 3, 4, 0] rfl h)
set_option maxRecDepth 100000 in
set_option maxHeartbeats 4000000 in
theorem g_L_law_1444 {ad : Nat → Nat} {sb Ls kc ks : Nat} {xs : Nat → Int32} {d : Nat} {Q : Option Value → Wm → Prop} {m : Wm} {x4 : Int32} (h : (vp_in (x4 + (1 : Int32)) Ls ∧ (Ct ad μX11_again d [.ref (ad 0), .int (xs (x4 + (1 : Int32)).toNatClampNeg)] m (fun r m1 => ∃ v2 : Int32, r = some (.int v2) ∧ (vp_in (x4 + (1 : Int32)) Ls ∧ (Ct ad μX12_again d [.ref (ad 187), .int (xs (x4 + (1 : Int32)).toNatClampNeg)] m1 (fun r m3 => ∃ v4 : Int32, r = some (.int v4) ∧ AWl LAY ad (EX (SX sb Ls xs) kc ks LAY) μL_law (d + 1) Q 23 [(0, .ref sb), (1, .ref (ad 0)), (2, .ref (ad 187)), (3, .ref (ad 217)), (4, .int (x4 + (6 : Int32)))] [] m3))))))) : AWl LAY ad (EX (SX sb Ls xs) (kc + 1) (ks + 6) LAY) μL_law (d + 1) Q 1444 [(0, .ref sb), (1, .ref (ad 0)), (2, .ref (ad 187)), (3, .ref (ad 217)), (4, .int x4)] [] m := by
  refine aw_aload_n (j := 1) dL_law_1444 rfl rfl ?_
  refine aw_aload_n (j := 0) dL_law_1445 rfl rfl ?_
  refine aw_iload (j := 4) dL_law_1446 rfl ?_
  refine aw_iconst (v := 1) dL_law_1448 (by decide) ?_
  refine aw_iadd dL_law_1449 ?_
  obtain ⟨hi, h⟩ := h
  refine aw_sld dL_law_1450 hi ?_
  refine aw_callV (rest := []) [.int (xs (x4 + (1 : Int32)).toNatClampNeg)] dL_law_1451 ly_0 rfl k_L_196 rfl h (Nat.le_of_ble_eq_true rfl) (fun v m1 h => ?_)
  obtain ⟨v2, rfl, h⟩ := h
  refine aw_eq (L' := [(0, .ref sb), (1, .ref (ad 0)), (2, .ref (ad 187)), (3, .ref (ad 217)), (4, .int x4)]) (st' := [.int v2]) (m' := m1) ?_ rfl rfl rfl
  refine aw_pop dL_law_1454 rfl ?_
  refine aw_aload_n (j := 2) dL_law_1455 rfl rfl ?_
  refine aw_aload_n (j := 0) dL_law_1456 rfl rfl ?_
  refine aw_iload (j := 4) dL_law_1457 rfl ?_
  refine aw_iconst (v := 1) dL_law_1459 (by decide) ?_
  refine aw_iadd dL_law_1460 ?_
  obtain ⟨hi, h⟩ := h
  refine aw_sld dL_law_1461 hi ?_
  refine aw_callV (rest := []) [.int (xs (x4 + (1 : Int32)).toNatClampNeg)] dL_law_1462 ly_187 rfl k_L_199 rfl h (Nat.le_of_ble_eq_true rfl) (fun v m3 h => ?_)
  obtain ⟨v4, rfl, h⟩ := h
  refine aw_eq (L' := [(0, .ref sb), (1, .ref (ad 0)), (2, .ref (ad 187)), (3, .ref (ad 217)), (4, .int x4)]) (st' := [.int v4]) (m' := m3) ?_ rfl rfl rfl
  refine aw_pop dL_law_1465 rfl ?_
  refine aw_goto (tgt := 1522) dL_law_1466 (by decide) ?_
  refine aw_iinc (j := 4) (v := x4 + (6 : Int32)) (L' := [(4, .int (x4 + (6 : Int32))), (0, .ref sb), (1, .ref (ad 0)), (2, .ref (ad 187)), (3, .ref (ad 217))]) dL_law_1522 rfl rfl (by decide) rfl ?_
  refine aw_goto (tgt := 23) dL_law_1525 (by decide) ?_
  exact aw_drop (Nat.le_succ _) (Nat.le_add_right _ _) (aw_sub [1, 2, 3, 4, 0] rfl h)
set_option maxRecDepth 100000 in
set_option maxHeartbeats 4000000 in
theorem g_L_law_1469 {ad : Nat → Nat} {sb Ls kc ks : Nat} {xs : Nat → Int32} {d : Nat} {Q : Option Value → Wm → Prop} {m : Wm} {x4 : Int32} (h : (vp_in (x4 + (1 : Int32)) Ls ∧ (Ct ad μX11_count d [.ref (ad 0), .int (xs (x4 + (1 : Int32)).toNatClampNeg)] m (fun r m1 => ∃ v2 : Int32, r = some (.int v2) ∧ (vp_in (x4 + (1 : Int32)) Ls ∧ (Ct ad μX12_count d [.ref (ad 187), .int (xs (x4 + (1 : Int32)).toNatClampNeg)] m1 (fun r m3 => ∃ v4 : Int32, r = some (.int v4) ∧ AWl LAY ad (EX (SX sb Ls xs) kc ks LAY) μL_law (d + 1) Q 23 [(0, .ref sb), (1, .ref (ad 0)), (2, .ref (ad 187)), (3, .ref (ad 217)), (4, .int (x4 + (6 : Int32)))] [] m3))))))) : AWl LAY ad (EX (SX sb Ls xs) (kc + 1) (ks + 6) LAY) μL_law (d + 1) Q 1469 [(0, .ref sb), (1, .ref (ad 0)), (2, .ref (ad 187)), (3, .ref (ad 217)), (4, .int x4)] [] m := by
  refine aw_aload_n (j := 1) dL_law_1469 rfl rfl ?_
  refine aw_aload_n (j := 0) dL_law_1470 rfl rfl ?_
  refine aw_iload (j := 4) dL_law_1471 rfl ?_
  refine aw_iconst (v := 1) dL_law_1473 (by decide) ?_
  refine aw_iadd dL_law_1474 ?_
  obtain ⟨hi, h⟩ := h
  refine aw_sld dL_law_1475 hi ?_
  refine aw_callV (rest := []) [.int (xs (x4 + (1 : Int32)).toNatClampNeg)] dL_law_1476 ly_0 rfl k_L_200 rfl h (Nat.le_of_ble_eq_true rfl) (fun v m1 h => ?_)
  obtain ⟨v2, rfl, h⟩ := h
  refine aw_eq (L' := [(0, .ref sb), (1, .ref (ad 0)), (2, .ref (ad 187)), (3, .ref (ad 217)), (4, .int x4)]) (st' := [.int v2]) (m' := m1) ?_ rfl rfl rfl
  refine aw_pop dL_law_1479 rfl ?_
  refine aw_aload_n (j := 2) dL_law_1480 rfl rfl ?_
  refine aw_aload_n (j := 0) dL_law_1481 rfl rfl ?_
  refine aw_iload (j := 4) dL_law_1482 rfl ?_
  refine aw_iconst (v := 1) dL_law_1484 (by decide) ?_
  refine aw_iadd dL_law_1485 ?_
  obtain ⟨hi, h⟩ := h
  refine aw_sld dL_law_1486 hi ?_
  refine aw_callV (rest := []) [.int (xs (x4 + (1 : Int32)).toNatClampNeg)] dL_law_1487 ly_187 rfl k_L_203 rfl h (Nat.le_of_ble_eq_true rfl) (fun v m3 h => ?_)
  obtain ⟨v4, rfl, h⟩ := h
  refine aw_eq (L' := [(0, .ref sb), (1, .ref (ad 0)), (2, .ref (ad 187)), (3, .ref (ad 217)), (4, .int x4)]) (st' := [.int v4]) (m' := m3) ?_ rfl rfl rfl
  refine aw_pop dL_law_1490 rfl ?_
  refine aw_goto (tgt := 1522) dL_law_1491 (by decide) ?_
  refine aw_iinc (j := 4) (v := x4 + (6 : Int32)) (L' := [(4, .int (x4 + (6 : Int32))), (0, .ref sb), (1, .ref (ad 0)), (2, .ref (ad 187)), (3, .ref (ad 217))]) dL_law_1522 rfl rfl (by decide) rfl ?_
  refine aw_goto (tgt := 23) dL_law_1525 (by decide) ?_
  exact aw_drop (Nat.le_succ _) (Nat.le_add_right _ _) (aw_sub [1, 2, 3, 4, 0] rfl h)
set_option maxRecDepth 100000 in
set_option maxHeartbeats 4000000 in
theorem g_L_law_1494 {ad : Nat → Nat} {sb Ls kc ks : Nat} {xs : Nat → Int32} {d : Nat} {Q : Option Value → Wm → Prop} {m : Wm} {x4 : Int32} (h : (vp_in (x4 + (1 : Int32)) Ls ∧ (Ctg ad μL_row hL_row d 1 6 [.ref (ad 0), .int (xs (x4 + (1 : Int32)).toNatClampNeg), .ref (ad 217)] m (fun r m1 => ∃ v2 : Int32, r = some (.int v2) ∧ (vp_in (x4 + (1 : Int32)) Ls ∧ (Ct ad μX12_row d [.ref (ad 187), .int (xs (x4 + (1 : Int32)).toNatClampNeg)] m1 (fun r m3 => ∃ w4 : Int64, r = some (.long w4) ∧ AWl LAY ad (EX (SX sb Ls xs) kc ks LAY) μL_law (d + 1) Q 23 [(0, .ref sb), (1, .ref (ad 0)), (2, .ref (ad 187)), (3, .ref (ad 217)), (4, .int (x4 + (6 : Int32)))] [] m3))))))) : AWl LAY ad (EX (SX sb Ls xs) (kc + 1) (ks + 6) LAY) μL_law (d + 1) Q 1494 [(0, .ref sb), (1, .ref (ad 0)), (2, .ref (ad 187)), (3, .ref (ad 217)), (4, .int x4)] [] m := by
  refine aw_aload_n (j := 1) dL_law_1494 rfl rfl ?_
  refine aw_aload_n (j := 0) dL_law_1495 rfl rfl ?_
  refine aw_iload (j := 4) dL_law_1496 rfl ?_
  refine aw_iconst (v := 1) dL_law_1498 (by decide) ?_
  refine aw_iadd dL_law_1499 ?_
  obtain ⟨hi, h⟩ := h
  refine aw_sld dL_law_1500 hi ?_
  refine aw_aload_n (j := 3) dL_law_1501 rfl rfl ?_
  refine aw_callSg (rest := []) [.ref (ad 0), .int (xs (x4 + (1 : Int32)).toNatClampNeg), .ref (ad 217)] dL_law_1502 k_L_204 rfl h (Nat.le_of_ble_eq_true rfl) (fun v m1 h => ?_)
  obtain ⟨v2, rfl, h⟩ := h
  refine aw_eq (L' := [(0, .ref sb), (1, .ref (ad 0)), (2, .ref (ad 187)), (3, .ref (ad 217)), (4, .int x4)]) (st' := [.int v2]) (m' := m1) ?_ rfl rfl rfl
  refine aw_istore (L' := [(5, .int v2), (0, .ref sb), (1, .ref (ad 0)), (2, .ref (ad 187)), (3, .ref (ad 217)), (4, .int x4)]) dL_law_1505 (by decide) rfl ?_
  refine aw_aload_n (j := 3) dL_law_1507 rfl rfl ?_
  refine aw_aload_n (j := 1) dL_law_1508 rfl rfl ?_
  refine aw_iload (j := 5) dL_law_1509 rfl ?_
  refine aw_iconst (v := 1) dL_law_1511 (by decide) ?_
  refine aw_iadd dL_law_1512 ?_
  obtain ⟨hi, h⟩ := h
  refine aw_sld dL_law_1513 hi ?_
  refine aw_callV (rest := []) [.int (xs (x4 + (1 : Int32)).toNatClampNeg)] dL_law_1514 ly_187 rfl k_L_207 rfl h (Nat.le_of_ble_eq_true rfl) (fun v m3 h => ?_)
  obtain ⟨w4, rfl, h⟩ := h
  refine aw_eq (L' := [(5, .int v2), (0, .ref sb), (1, .ref (ad 0)), (2, .ref (ad 187)), (3, .ref (ad 217)), (4, .int x4)]) (st' := [.long w4]) (m' := m3) ?_ rfl rfl rfl
  refine aw_lstore (L' := [(6, .long w4), (5, .int v2), (0, .ref sb), (1, .ref (ad 0)), (2, .ref (ad 187)), (3, .ref (ad 217)), (4, .int x4)]) dL_law_1517 (by decide) rfl ?_
  refine aw_goto (tgt := 1522) dL_law_1519 (by decide) ?_
  refine aw_iinc (j := 6) (v := x4 + (6 : Int32)) (L' := [(4, .int (x4 + (6 : Int32))), (6, .long w4), (5, .int v2), (0, .ref sb), (1, .ref (ad 0)), (2, .ref (ad 187)), (3, .ref (ad 217))]) dL_law_1522 rfl rfl (by decide) rfl ?_
  refine aw_goto (tgt := 23) dL_law_1525 (by decide) ?_
  exact aw_sub [3, 4, 5, 6, 0] rfl h
