/-! THE LOOP OF THE LAW: from an invariant to the next by one call each -/
theorem Ctg.mono {ad : Nat → Nat} {μ : MI} {hh : List (Nat × Nat × Nat × Nat)} {d kc ks : Nat} {args : List Value} {m : Wm} {Q Q' : Option Value → Wm → Prop} (h : Ctg ad μ hh d kc ks args m Q) (hq : ∀ v m', Q v m' → Q' v m') : Ctg ad μ hh d kc ks args m Q' := by
  intro l G cA sz hl p e ha hc hk s mt args' below hf happ hP hK
  obtain ⟨t, o, h1, h2, h3, ⟨⟨v, m', e1, e2, e3⟩, e4⟩, h5⟩ := h l G cA sz hl p e ha hc hk s mt args' below hf happ hP hK
  exact ⟨t, o, h1, h2, h3, ⟨⟨v, m', e1, hq v m' e2, e3⟩, e4⟩, h5⟩
def OpI (ad : Nat → Nat) (d : Nat) (μ μ' : MI) (as : List Value) (I J : Wm → Prop) : Prop := ∀ m, I m → Ct ad μ (d + 300) (.ref (ad 0) :: as) m (fun r m1 => ∃ v : Int32, r = some (.int v) ∧ Ct ad μ' (d + 300) (.ref (ad 187) :: as) m1 (fun r m2 => r = some (.int v) ∧ J m2))
def OpOf (ad : Nat → Nat) (d : Nat) (a b : Int32) (I J : Wm → Prop) : Prop := ∀ m, I m → Ctg ad μL_of hL_of (d + 300) 1 6 [.ref (ad 0), .int a, .int b, .ref (ad 217)] m (fun r m1 => ∃ v : Int32, r = some (.int v) ∧ Ct ad μX12_of (d + 300) [.ref (ad 187), .int a, .int b] m1 (fun r m3 => ∃ w : Int32, r = some (.int w) ∧ m3.1 187 17 = v ∧ (v = 0 → m3.2.1 217 (0 : Int32).toNatClampNeg = w.toInt64) ∧ J m3))
def OpRow (ad : Nat → Nat) (d : Nat) (a : Int32) (I J : Wm → Prop) : Prop := ∀ m, I m → Ctg ad μL_row hL_row (d + 300) 1 6 [.ref (ad 0), .int a, .ref (ad 217)] m (fun r m1 => ∃ v : Int32, r = some (.int v) ∧ Ct ad μX12_row (d + 300) [.ref (ad 187), .int a] m1 (fun r m3 => ∃ w : Int64, r = some (.long w) ∧ m3.1 187 17 = v ∧ (v = 0 → m3.2.1 217 (0 : Int32).toNatClampNeg = w) ∧ J m3))
/-- both sides are called, no answers are compared -/
def OpW (ad : Nat → Nat) (d : Nat) (μ μ' : MI) (as : List Value) (I J : Wm → Prop) : Prop := ∀ m, I m → Ct ad μ (d + 300) (.ref (ad 0) :: as) m (fun r m1 => (∃ v : Int32, r = some (.int v)) ∧ Ct ad μ' (d + 300) (.ref (ad 187) :: as) m1 (fun r m2 => (∃ w : Int32, r = some (.int w)) ∧ J m2))
def OpOfW (ad : Nat → Nat) (d : Nat) (a b : Int32) (I J : Wm → Prop) : Prop := ∀ m, I m → Ctg ad μL_of hL_of (d + 300) 1 6 [.ref (ad 0), .int a, .int b, .ref (ad 217)] m (fun r m1 => (∃ v : Int32, r = some (.int v)) ∧ Ct ad μX12_of (d + 300) [.ref (ad 187), .int a, .int b] m1 (fun r m3 => (∃ w : Int32, r = some (.int w)) ∧ J m3))
def OpRowW (ad : Nat → Nat) (d : Nat) (a : Int32) (I J : Wm → Prop) : Prop := ∀ m, I m → Ctg ad μL_row hL_row (d + 300) 1 6 [.ref (ad 0), .int a, .ref (ad 217)] m (fun r m1 => (∃ v : Int32, r = some (.int v)) ∧ Ct ad μX12_row (d + 300) [.ref (ad 187), .int a] m1 (fun r m3 => (∃ w : Int64, r = some (.long w)) ∧ J m3))
def O_sign (ad : Nat → Nat) (d : Nat) (I J : Wm → Prop) : Prop := ∀ a : Int32, OpW ad d μX11_sign μX12_sign [.int a] I J
set_option maxHeartbeats 1000000 in
theorem L_sign {ad : Nat → Nat} {sb Ls kc ks d : Nat} {xs : Nat → Int32} {Q : Option Value → Wm → Prop} {m : Wm} {x4 : Int32} {I J : Wm → Prop} (hv1 : vp_in (x4 + (1 : Int32)) Ls) (ho : O_sign ad d I J) (hI : I m) (K : ∀ m', J m' → AWl LAY ad (EX (SX sb Ls xs) kc ks LAY) μL_law (d + 301) Q 23 [(0, .ref sb), (1, .ref (ad 0)), (2, .ref (ad 187)), (3, .ref (ad 217)), (4, .int (x4 + (6 : Int32)))] [] m') : AWl LAY ad (EX (SX sb Ls xs) (kc + 1) (ks + 6) LAY) μL_law (d + 301) Q 232 [(0, .ref sb), (1, .ref (ad 0)), (2, .ref (ad 187)), (3, .ref (ad 217)), (4, .int x4)] [] m := g_L_law_232 ⟨hv1, (ho _ m hI).to (fun r m1 h => by
    obtain ⟨⟨v, rfl⟩, h2⟩ := h
    exact ⟨v, rfl, hv1, h2.to (fun r m3 h => by obtain ⟨⟨w, rfl⟩, hJ⟩ := h; exact ⟨w, rfl, K m3 hJ⟩)⟩)⟩
def O_end (ad : Nat → Nat) (d : Nat) (I J : Wm → Prop) : Prop := ∀ a : Int32, OpW ad d μX11_end μX12_end [.int a] I J
set_option maxHeartbeats 1000000 in
theorem L_end {ad : Nat → Nat} {sb Ls kc ks d : Nat} {xs : Nat → Int32} {Q : Option Value → Wm → Prop} {m : Wm} {x4 : Int32} {I J : Wm → Prop} (hv1 : vp_in (x4 + (1 : Int32)) Ls) (ho : O_end ad d I J) (hI : I m) (K : ∀ m', J m' → AWl LAY ad (EX (SX sb Ls xs) kc ks LAY) μL_law (d + 301) Q 23 [(0, .ref sb), (1, .ref (ad 0)), (2, .ref (ad 187)), (3, .ref (ad 217)), (4, .int (x4 + (6 : Int32)))] [] m') : AWl LAY ad (EX (SX sb Ls xs) (kc + 1) (ks + 6) LAY) μL_law (d + 301) Q 257 [(0, .ref sb), (1, .ref (ad 0)), (2, .ref (ad 187)), (3, .ref (ad 217)), (4, .int x4)] [] m := g_L_law_257 ⟨hv1, (ho _ m hI).to (fun r m1 h => by
    obtain ⟨⟨v, rfl⟩, h2⟩ := h
    exact ⟨v, rfl, hv1, h2.to (fun r m3 h => by obtain ⟨⟨w, rfl⟩, hJ⟩ := h; exact ⟨w, rfl, K m3 hJ⟩)⟩)⟩
def O_league (ad : Nat → Nat) (d : Nat) (I J : Wm → Prop) : Prop := OpW ad d μX11_league μX12_league [] I J
set_option maxHeartbeats 1000000 in
theorem L_league {ad : Nat → Nat} {sb Ls kc ks d : Nat} {xs : Nat → Int32} {Q : Option Value → Wm → Prop} {m : Wm} {x4 : Int32} {I J : Wm → Prop}  (ho : O_league ad d I J) (hI : I m) (K : ∀ m', J m' → AWl LAY ad (EX (SX sb Ls xs) kc ks LAY) μL_law (d + 301) Q 23 [(0, .ref sb), (1, .ref (ad 0)), (2, .ref (ad 187)), (3, .ref (ad 217)), (4, .int (x4 + (6 : Int32)))] [] m') : AWl LAY ad (EX (SX sb Ls xs) (kc + 1) (ks + 6) LAY) μL_law (d + 301) Q 282 [(0, .ref sb), (1, .ref (ad 0)), (2, .ref (ad 187)), (3, .ref (ad 217)), (4, .int x4)] [] m := g_L_law_282 ((ho  m hI).to (fun r m1 h => by
    obtain ⟨⟨v, rfl⟩, h2⟩ := h
    exact ⟨v, rfl, h2.to (fun r m3 h => by obtain ⟨⟨w, rfl⟩, hJ⟩ := h; exact ⟨w, rfl, K m3 hJ⟩)⟩))
def O_rule (ad : Nat → Nat) (d : Nat) (I J : Wm → Prop) : Prop := OpW ad d μX11_rule μX12_rule [] I J
set_option maxHeartbeats 1000000 in
theorem L_rule {ad : Nat → Nat} {sb Ls kc ks d : Nat} {xs : Nat → Int32} {Q : Option Value → Wm → Prop} {m : Wm} {x4 : Int32} {I J : Wm → Prop}  (ho : O_rule ad d I J) (hI : I m) (K : ∀ m', J m' → AWl LAY ad (EX (SX sb Ls xs) kc ks LAY) μL_law (d + 301) Q 23 [(0, .ref sb), (1, .ref (ad 0)), (2, .ref (ad 187)), (3, .ref (ad 217)), (4, .int (x4 + (6 : Int32)))] [] m') : AWl LAY ad (EX (SX sb Ls xs) (kc + 1) (ks + 6) LAY) μL_law (d + 301) Q 295 [(0, .ref sb), (1, .ref (ad 0)), (2, .ref (ad 187)), (3, .ref (ad 217)), (4, .int x4)] [] m := g_L_law_295 ((ho  m hI).to (fun r m1 h => by
    obtain ⟨⟨v, rfl⟩, h2⟩ := h
    exact ⟨v, rfl, h2.to (fun r m3 h => by obtain ⟨⟨w, rfl⟩, hJ⟩ := h; exact ⟨w, rfl, K m3 hJ⟩)⟩))
def O_plan (ad : Nat → Nat) (d : Nat) (I J : Wm → Prop) : Prop := OpW ad d μX11_plan μX12_plan [] I J
set_option maxHeartbeats 1000000 in
theorem L_plan {ad : Nat → Nat} {sb Ls kc ks d : Nat} {xs : Nat → Int32} {Q : Option Value → Wm → Prop} {m : Wm} {x4 : Int32} {I J : Wm → Prop}  (ho : O_plan ad d I J) (hI : I m) (K : ∀ m', J m' → AWl LAY ad (EX (SX sb Ls xs) kc ks LAY) μL_law (d + 301) Q 23 [(0, .ref sb), (1, .ref (ad 0)), (2, .ref (ad 187)), (3, .ref (ad 217)), (4, .int (x4 + (6 : Int32)))] [] m') : AWl LAY ad (EX (SX sb Ls xs) (kc + 1) (ks + 6) LAY) μL_law (d + 301) Q 308 [(0, .ref sb), (1, .ref (ad 0)), (2, .ref (ad 187)), (3, .ref (ad 217)), (4, .int x4)] [] m := g_L_law_308 ((ho  m hI).to (fun r m1 h => by
    obtain ⟨⟨v, rfl⟩, h2⟩ := h
    exact ⟨v, rfl, h2.to (fun r m3 h => by obtain ⟨⟨w, rfl⟩, hJ⟩ := h; exact ⟨w, rfl, K m3 hJ⟩)⟩))
def O_skill (ad : Nat → Nat) (d : Nat) (I J : Wm → Prop) : Prop := ∀ a b : Int32, OpW ad d μX11_skill μX12_skill [.int a, .int b] I J
set_option maxHeartbeats 1000000 in
theorem L_skill {ad : Nat → Nat} {sb Ls kc ks d : Nat} {xs : Nat → Int32} {Q : Option Value → Wm → Prop} {m : Wm} {x4 : Int32} {I J : Wm → Prop} (hv1 : vp_in (x4 + (1 : Int32)) Ls) (hv2 : vp_in (x4 + (2 : Int32)) Ls) (ho : O_skill ad d I J) (hI : I m) (K : ∀ m', J m' → AWl LAY ad (EX (SX sb Ls xs) kc ks LAY) μL_law (d + 301) Q 23 [(0, .ref sb), (1, .ref (ad 0)), (2, .ref (ad 187)), (3, .ref (ad 217)), (4, .int (x4 + (6 : Int32)))] [] m') : AWl LAY ad (EX (SX sb Ls xs) (kc + 1) (ks + 6) LAY) μL_law (d + 301) Q 321 [(0, .ref sb), (1, .ref (ad 0)), (2, .ref (ad 187)), (3, .ref (ad 217)), (4, .int x4)] [] m := g_L_law_321 ⟨hv1, hv2, (ho _ _ m hI).to (fun r m1 h => by
    obtain ⟨⟨v, rfl⟩, h2⟩ := h
    exact ⟨v, rfl, hv1, hv2, h2.to (fun r m3 h => by obtain ⟨⟨w, rfl⟩, hJ⟩ := h; exact ⟨w, rfl, K m3 hJ⟩)⟩)⟩
def O_of (ad : Nat → Nat) (d : Nat) (I J : Wm → Prop) : Prop := ∀ a b : Int32, OpOfW ad d a b I J
set_option maxHeartbeats 1000000 in
theorem L_of {ad : Nat → Nat} {sb Ls kc ks d : Nat} {xs : Nat → Int32} {Q : Option Value → Wm → Prop} {m : Wm} {x4 : Int32} {I J : Wm → Prop} (hv1 : vp_in (x4 + (1 : Int32)) Ls) (hv2 : vp_in (x4 + (2 : Int32)) Ls) (ho : O_of ad d I J) (hI : I m) (K : ∀ m', J m' → AWl LAY ad (EX (SX sb Ls xs) kc ks LAY) μL_law (d + 301) Q 23 [(0, .ref sb), (1, .ref (ad 0)), (2, .ref (ad 187)), (3, .ref (ad 217)), (4, .int (x4 + (6 : Int32)))] [] m') : AWl LAY ad (EX (SX sb Ls xs) (kc + 1) (ks + 6) LAY) μL_law (d + 301) Q 358 [(0, .ref sb), (1, .ref (ad 0)), (2, .ref (ad 187)), (3, .ref (ad 217)), (4, .int x4)] [] m := g_L_law_358 ⟨hv1, hv2, Ctg.mono (ho _ _ m hI) (fun r m1 h => by
    obtain ⟨⟨v, rfl⟩, h2⟩ := h
    refine ⟨v, rfl, hv1, hv2, h2.to (fun r m3 h => ?_)⟩
    obtain ⟨⟨w, rfl⟩, hJ⟩ := h
    exact ⟨w, rfl, K m3 hJ⟩)⟩
def O_law (ad : Nat → Nat) (d : Nat) (I J : Wm → Prop) : Prop := ∀ a b : Int32, OpW ad d μX11_law μX12_law [.int a, .int b] I J
set_option maxHeartbeats 1000000 in
theorem L_law {ad : Nat → Nat} {sb Ls kc ks d : Nat} {xs : Nat → Int32} {Q : Option Value → Wm → Prop} {m : Wm} {x4 : Int32} {I J : Wm → Prop} (hv1 : vp_in (x4 + (1 : Int32)) Ls) (hv2 : vp_in (x4 + (2 : Int32)) Ls) (ho : O_law ad d I J) (hI : I m) (K : ∀ m', J m' → AWl LAY ad (EX (SX sb Ls xs) kc ks LAY) μL_law (d + 301) Q 23 [(0, .ref sb), (1, .ref (ad 0)), (2, .ref (ad 187)), (3, .ref (ad 217)), (4, .int (x4 + (6 : Int32)))] [] m') : AWl LAY ad (EX (SX sb Ls xs) (kc + 1) (ks + 6) LAY) μL_law (d + 301) Q 398 [(0, .ref sb), (1, .ref (ad 0)), (2, .ref (ad 187)), (3, .ref (ad 217)), (4, .int x4)] [] m := g_L_law_398 ⟨hv1, hv2, (ho _ _ m hI).to (fun r m1 h => by
    obtain ⟨⟨v, rfl⟩, h2⟩ := h
    exact ⟨v, rfl, hv1, hv2, h2.to (fun r m3 h => by obtain ⟨⟨w, rfl⟩, hJ⟩ := h; exact ⟨w, rfl, K m3 hJ⟩)⟩)⟩
def O_sheet (ad : Nat → Nat) (d : Nat) (I J : Wm → Prop) : Prop := ∀ a b c e f : Int32, OpW ad d μX11_sheet μX12_sheet [.int a, .int b, .int c, .int e, .int f] I J
set_option maxHeartbeats 1000000 in
theorem L_sheet {ad : Nat → Nat} {sb Ls kc ks d : Nat} {xs : Nat → Int32} {Q : Option Value → Wm → Prop} {m : Wm} {x4 : Int32} {I J : Wm → Prop} (hv1 : vp_in (x4 + (1 : Int32)) Ls) (hv2 : vp_in (x4 + (2 : Int32)) Ls) (hv3 : vp_in (x4 + (3 : Int32)) Ls) (hv4 : vp_in (x4 + (4 : Int32)) Ls) (hv5 : vp_in (x4 + (5 : Int32)) Ls) (ho : O_sheet ad d I J) (hI : I m) (K : ∀ m', J m' → AWl LAY ad (EX (SX sb Ls xs) kc ks LAY) μL_law (d + 301) Q 23 [(0, .ref sb), (1, .ref (ad 0)), (2, .ref (ad 187)), (3, .ref (ad 217)), (4, .int (x4 + (6 : Int32)))] [] m') : AWl LAY ad (EX (SX sb Ls xs) (kc + 1) (ks + 6) LAY) μL_law (d + 301) Q 435 [(0, .ref sb), (1, .ref (ad 0)), (2, .ref (ad 187)), (3, .ref (ad 217)), (4, .int x4)] [] m := g_L_law_435 ⟨hv1, hv2, hv3, hv4, hv5, (ho _ _ _ _ _ m hI).to (fun r m1 h => by
    obtain ⟨⟨v, rfl⟩, h2⟩ := h
    exact ⟨v, rfl, hv1, hv2, hv3, hv4, hv5, h2.to (fun r m3 h => by obtain ⟨⟨w, rfl⟩, hJ⟩ := h; exact ⟨w, rfl, K m3 hJ⟩)⟩)⟩
def O_ill (ad : Nat → Nat) (d : Nat) (I J : Wm → Prop) : Prop := ∀ a b : Int32, b = 0 ∨ b = 1 → OpW ad d μX11_ill μX12_ill [.int a, .int b] I J
set_option maxHeartbeats 1000000 in
theorem L_ill {ad : Nat → Nat} {sb Ls kc ks d : Nat} {xs : Nat → Int32} {Q : Option Value → Wm → Prop} {m : Wm} {x4 : Int32} {I J : Wm → Prop} (hv1 : vp_in (x4 + (1 : Int32)) Ls) (hv2 : vp_in (x4 + (2 : Int32)) Ls) (ho : O_ill ad d I J) (hI : I m) (K : ∀ m', J m' → AWl LAY ad (EX (SX sb Ls xs) kc ks LAY) μL_law (d + 301) Q 23 [(0, .ref sb), (1, .ref (ad 0)), (2, .ref (ad 187)), (3, .ref (ad 217)), (4, .int (x4 + (6 : Int32)))] [] m') : AWl LAY ad (EX (SX sb Ls xs) (kc + 1) (ks + 6) LAY) μL_law (d + 301) Q 508 [(0, .ref sb), (1, .ref (ad 0)), (2, .ref (ad 187)), (3, .ref (ad 217)), (4, .int x4)] [] m := g_L_law_508 ⟨hv1, hv2, fun hz => (ho _ 0 (Or.inl rfl) m hI).to (fun r m1 h => by
    obtain ⟨⟨v, rfl⟩, h2⟩ := h
    exact ⟨v, rfl, hv1, hv2, fun _ => h2.to (fun r m3 h => by obtain ⟨⟨w, rfl⟩, hJ⟩ := h; exact ⟨w, rfl, K m3 hJ⟩), fun hn => absurd hz hn⟩), fun hz => (ho _ 1 (Or.inr rfl) m hI).to (fun r m1 h => by
    obtain ⟨⟨v, rfl⟩, h2⟩ := h
    exact ⟨v, rfl, hv1, hv2, fun hn => absurd hn hz, fun _ => h2.to (fun r m3 h => by obtain ⟨⟨w, rfl⟩, hJ⟩ := h; exact ⟨w, rfl, K m3 hJ⟩)⟩)⟩
def O_swap (ad : Nat → Nat) (d : Nat) (I J : Wm → Prop) : Prop := ∀ a b : Int32, OpW ad d μX11_swap μX12_swap [.int a, .int b] I J
set_option maxHeartbeats 1000000 in
theorem L_swap {ad : Nat → Nat} {sb Ls kc ks d : Nat} {xs : Nat → Int32} {Q : Option Value → Wm → Prop} {m : Wm} {x4 : Int32} {I J : Wm → Prop} (hv1 : vp_in (x4 + (1 : Int32)) Ls) (hv2 : vp_in (x4 + (2 : Int32)) Ls) (ho : O_swap ad d I J) (hI : I m) (K : ∀ m', J m' → AWl LAY ad (EX (SX sb Ls xs) kc ks LAY) μL_law (d + 301) Q 23 [(0, .ref sb), (1, .ref (ad 0)), (2, .ref (ad 187)), (3, .ref (ad 217)), (4, .int (x4 + (6 : Int32)))] [] m') : AWl LAY ad (EX (SX sb Ls xs) (kc + 1) (ks + 6) LAY) μL_law (d + 301) Q 561 [(0, .ref sb), (1, .ref (ad 0)), (2, .ref (ad 187)), (3, .ref (ad 217)), (4, .int x4)] [] m := g_L_law_561 ⟨hv1, hv2, (ho _ _ m hI).to (fun r m1 h => by
    obtain ⟨⟨v, rfl⟩, h2⟩ := h
    exact ⟨v, rfl, hv1, hv2, h2.to (fun r m3 h => by obtain ⟨⟨w, rfl⟩, hJ⟩ := h; exact ⟨w, rfl, K m3 hJ⟩)⟩)⟩
def O_circle (ad : Nat → Nat) (d : Nat) (I J : Wm → Prop) : Prop := OpW ad d μX11_circle μX12_circle [] I J
set_option maxHeartbeats 1000000 in
theorem L_circle {ad : Nat → Nat} {sb Ls kc ks d : Nat} {xs : Nat → Int32} {Q : Option Value → Wm → Prop} {m : Wm} {x4 : Int32} {I J : Wm → Prop}  (ho : O_circle ad d I J) (hI : I m) (K : ∀ m', J m' → AWl LAY ad (EX (SX sb Ls xs) kc ks LAY) μL_law (d + 301) Q 23 [(0, .ref sb), (1, .ref (ad 0)), (2, .ref (ad 187)), (3, .ref (ad 217)), (4, .int (x4 + (6 : Int32)))] [] m') : AWl LAY ad (EX (SX sb Ls xs) (kc + 1) (ks + 6) LAY) μL_law (d + 301) Q 598 [(0, .ref sb), (1, .ref (ad 0)), (2, .ref (ad 187)), (3, .ref (ad 217)), (4, .int x4)] [] m := g_L_law_598 ((ho  m hI).to (fun r m1 h => by
    obtain ⟨⟨v, rfl⟩, h2⟩ := h
    exact ⟨v, rfl, h2.to (fun r m3 h => by obtain ⟨⟨w, rfl⟩, hJ⟩ := h; exact ⟨w, rfl, K m3 hJ⟩)⟩))
def O_game (ad : Nat → Nat) (d : Nat) (I J : Wm → Prop) : Prop := ∀ a b c : Int32, OpW ad d μX11_game μX12_game [.int a, .int b, .int c] I J
set_option maxHeartbeats 1000000 in
theorem L_game {ad : Nat → Nat} {sb Ls kc ks d : Nat} {xs : Nat → Int32} {Q : Option Value → Wm → Prop} {m : Wm} {x4 : Int32} {I J : Wm → Prop} (hv1 : vp_in (x4 + (1 : Int32)) Ls) (hv2 : vp_in (x4 + (2 : Int32)) Ls) (hv3 : vp_in (x4 + (3 : Int32)) Ls) (ho : O_game ad d I J) (hI : I m) (K : ∀ m', J m' → AWl LAY ad (EX (SX sb Ls xs) kc ks LAY) μL_law (d + 301) Q 23 [(0, .ref sb), (1, .ref (ad 0)), (2, .ref (ad 187)), (3, .ref (ad 217)), (4, .int (x4 + (6 : Int32)))] [] m') : AWl LAY ad (EX (SX sb Ls xs) (kc + 1) (ks + 6) LAY) μL_law (d + 301) Q 611 [(0, .ref sb), (1, .ref (ad 0)), (2, .ref (ad 187)), (3, .ref (ad 217)), (4, .int x4)] [] m := g_L_law_611 ⟨hv1, hv2, hv3, (ho _ _ _ m hI).to (fun r m1 h => by
    obtain ⟨⟨v, rfl⟩, h2⟩ := h
    exact ⟨v, rfl, hv1, hv2, hv3, h2.to (fun r m3 h => by obtain ⟨⟨w, rfl⟩, hJ⟩ := h; exact ⟨w, rfl, K m3 hJ⟩)⟩)⟩
def O_odds (ad : Nat → Nat) (d : Nat) (I J : Wm → Prop) : Prop := ∀ a b : Int32, OpW ad d μX11_odds μX12_odds [.int a, .int b] I J
set_option maxHeartbeats 1000000 in
theorem L_odds {ad : Nat → Nat} {sb Ls kc ks d : Nat} {xs : Nat → Int32} {Q : Option Value → Wm → Prop} {m : Wm} {x4 : Int32} {I J : Wm → Prop} (hv1 : vp_in (x4 + (1 : Int32)) Ls) (hv2 : vp_in (x4 + (2 : Int32)) Ls) (ho : O_odds ad d I J) (hI : I m) (K : ∀ m', J m' → AWl LAY ad (EX (SX sb Ls xs) kc ks LAY) μL_law (d + 301) Q 23 [(0, .ref sb), (1, .ref (ad 0)), (2, .ref (ad 187)), (3, .ref (ad 217)), (4, .int (x4 + (6 : Int32)))] [] m') : AWl LAY ad (EX (SX sb Ls xs) (kc + 1) (ks + 6) LAY) μL_law (d + 301) Q 660 [(0, .ref sb), (1, .ref (ad 0)), (2, .ref (ad 187)), (3, .ref (ad 217)), (4, .int x4)] [] m := g_L_law_660 ⟨hv1, hv2, (ho _ _ m hI).to (fun r m1 h => by
    obtain ⟨⟨v, rfl⟩, h2⟩ := h
    exact ⟨v, rfl, hv1, hv2, h2.to (fun r m3 h => by obtain ⟨⟨w, rfl⟩, hJ⟩ := h; exact ⟨w, rfl, K m3 hJ⟩)⟩)⟩
def O_play (ad : Nat → Nat) (d : Nat) (I J : Wm → Prop) : Prop := ∀ a b c : Int32, OpW ad d μX11_play μX12_play [.int a, .int b, .int c] I J
set_option maxHeartbeats 1000000 in
theorem L_play {ad : Nat → Nat} {sb Ls kc ks d : Nat} {xs : Nat → Int32} {Q : Option Value → Wm → Prop} {m : Wm} {x4 : Int32} {I J : Wm → Prop} (hv1 : vp_in (x4 + (1 : Int32)) Ls) (hv2 : vp_in (x4 + (2 : Int32)) Ls) (hv3 : vp_in (x4 + (3 : Int32)) Ls) (ho : O_play ad d I J) (hI : I m) (K : ∀ m', J m' → AWl LAY ad (EX (SX sb Ls xs) kc ks LAY) μL_law (d + 301) Q 23 [(0, .ref sb), (1, .ref (ad 0)), (2, .ref (ad 187)), (3, .ref (ad 217)), (4, .int (x4 + (6 : Int32)))] [] m') : AWl LAY ad (EX (SX sb Ls xs) (kc + 1) (ks + 6) LAY) μL_law (d + 301) Q 697 [(0, .ref sb), (1, .ref (ad 0)), (2, .ref (ad 187)), (3, .ref (ad 217)), (4, .int x4)] [] m := g_L_law_697 ⟨hv1, hv2, hv3, (ho _ _ _ m hI).to (fun r m1 h => by
    obtain ⟨⟨v, rfl⟩, h2⟩ := h
    exact ⟨v, rfl, hv1, hv2, hv3, h2.to (fun r m3 h => by obtain ⟨⟨w, rfl⟩, hJ⟩ := h; exact ⟨w, rfl, K m3 hJ⟩)⟩)⟩
def O_undo (ad : Nat → Nat) (d : Nat) (I J : Wm → Prop) : Prop := OpI ad d μX11_undo μX12_undo [] I J
set_option maxHeartbeats 1000000 in
theorem L_undo {ad : Nat → Nat} {sb Ls kc ks d : Nat} {xs : Nat → Int32} {Q : Option Value → Wm → Prop} {m : Wm} {x4 : Int32} {I J : Wm → Prop}  (ho : O_undo ad d I J) (hI : I m) (K : ∀ m', J m' → AWl LAY ad (EX (SX sb Ls xs) kc ks LAY) μL_law (d + 301) Q 23 [(0, .ref sb), (1, .ref (ad 0)), (2, .ref (ad 187)), (3, .ref (ad 217)), (4, .int (x4 + (6 : Int32)))] [] m') : AWl LAY ad (EX (SX sb Ls xs) (kc + 1) (ks + 6) LAY) μL_law (d + 301) Q 746 [(0, .ref sb), (1, .ref (ad 0)), (2, .ref (ad 187)), (3, .ref (ad 217)), (4, .int x4)] [] m := g_L_law_746 ((ho  m hI).to (fun r m1 h => by
    obtain ⟨v, rfl, h2⟩ := h
    exact ⟨v, rfl, h2.to (fun r m3 h => by obtain ⟨rfl, hJ⟩ := h; exact ⟨v, rfl, fun _ => K m3 hJ, fun h => absurd rfl h⟩)⟩))
def O_judge (ad : Nat → Nat) (d : Nat) (I J : Wm → Prop) : Prop := ∀ a b : Int32, OpW ad d μX11_judge μX12_judge [.int a, .int b] I J
set_option maxHeartbeats 1000000 in
theorem L_judge {ad : Nat → Nat} {sb Ls kc ks d : Nat} {xs : Nat → Int32} {Q : Option Value → Wm → Prop} {m : Wm} {x4 : Int32} {I J : Wm → Prop} (hv1 : vp_in (x4 + (1 : Int32)) Ls) (hv2 : vp_in (x4 + (2 : Int32)) Ls) (ho : O_judge ad d I J) (hI : I m) (K : ∀ m', J m' → AWl LAY ad (EX (SX sb Ls xs) kc ks LAY) μL_law (d + 301) Q 23 [(0, .ref sb), (1, .ref (ad 0)), (2, .ref (ad 187)), (3, .ref (ad 217)), (4, .int (x4 + (6 : Int32)))] [] m') : AWl LAY ad (EX (SX sb Ls xs) (kc + 1) (ks + 6) LAY) μL_law (d + 301) Q 759 [(0, .ref sb), (1, .ref (ad 0)), (2, .ref (ad 187)), (3, .ref (ad 217)), (4, .int x4)] [] m := g_L_law_759 ⟨hv1, hv2, (ho _ _ m hI).to (fun r m1 h => by
    obtain ⟨⟨v, rfl⟩, h2⟩ := h
    exact ⟨v, rfl, hv1, hv2, h2.to (fun r m3 h => by obtain ⟨⟨w, rfl⟩, hJ⟩ := h; exact ⟨w, rfl, K m3 hJ⟩)⟩)⟩
def O_rounds (ad : Nat → Nat) (d : Nat) (I J : Wm → Prop) : Prop := ∀ a : Int32, OpW ad d μX11_rounds μX12_rounds [.int a] I J
set_option maxHeartbeats 1000000 in
theorem L_rounds {ad : Nat → Nat} {sb Ls kc ks d : Nat} {xs : Nat → Int32} {Q : Option Value → Wm → Prop} {m : Wm} {x4 : Int32} {I J : Wm → Prop} (hv1 : vp_in (x4 + (1 : Int32)) Ls) (ho : O_rounds ad d I J) (hI : I m) (K : ∀ m', J m' → AWl LAY ad (EX (SX sb Ls xs) kc ks LAY) μL_law (d + 301) Q 23 [(0, .ref sb), (1, .ref (ad 0)), (2, .ref (ad 187)), (3, .ref (ad 217)), (4, .int (x4 + (6 : Int32)))] [] m') : AWl LAY ad (EX (SX sb Ls xs) (kc + 1) (ks + 6) LAY) μL_law (d + 301) Q 796 [(0, .ref sb), (1, .ref (ad 0)), (2, .ref (ad 187)), (3, .ref (ad 217)), (4, .int x4)] [] m := g_L_law_796 ⟨hv1, (ho _ m hI).to (fun r m1 h => by
    obtain ⟨⟨v, rfl⟩, h2⟩ := h
    exact ⟨v, rfl, hv1, h2.to (fun r m3 h => by obtain ⟨⟨w, rfl⟩, hJ⟩ := h; exact ⟨w, rfl, K m3 hJ⟩)⟩)⟩
def O_beats (ad : Nat → Nat) (d : Nat) (I J : Wm → Prop) : Prop := ∀ a : Int32, OpW ad d μX11_beats μX12_beats [.int a] I J
set_option maxHeartbeats 1000000 in
theorem L_beats {ad : Nat → Nat} {sb Ls kc ks d : Nat} {xs : Nat → Int32} {Q : Option Value → Wm → Prop} {m : Wm} {x4 : Int32} {I J : Wm → Prop} (hv1 : vp_in (x4 + (1 : Int32)) Ls) (ho : O_beats ad d I J) (hI : I m) (K : ∀ m', J m' → AWl LAY ad (EX (SX sb Ls xs) kc ks LAY) μL_law (d + 301) Q 23 [(0, .ref sb), (1, .ref (ad 0)), (2, .ref (ad 187)), (3, .ref (ad 217)), (4, .int (x4 + (6 : Int32)))] [] m') : AWl LAY ad (EX (SX sb Ls xs) (kc + 1) (ks + 6) LAY) μL_law (d + 301) Q 821 [(0, .ref sb), (1, .ref (ad 0)), (2, .ref (ad 187)), (3, .ref (ad 217)), (4, .int x4)] [] m := g_L_law_821 ⟨hv1, (ho _ m hI).to (fun r m1 h => by
    obtain ⟨⟨v, rfl⟩, h2⟩ := h
    exact ⟨v, rfl, hv1, h2.to (fun r m3 h => by obtain ⟨⟨w, rfl⟩, hJ⟩ := h; exact ⟨w, rfl, K m3 hJ⟩)⟩)⟩
def O_kings (ad : Nat → Nat) (d : Nat) (I J : Wm → Prop) : Prop := OpW ad d μX11_kings μX12_kings [] I J
set_option maxHeartbeats 1000000 in
theorem L_kings {ad : Nat → Nat} {sb Ls kc ks d : Nat} {xs : Nat → Int32} {Q : Option Value → Wm → Prop} {m : Wm} {x4 : Int32} {I J : Wm → Prop}  (ho : O_kings ad d I J) (hI : I m) (K : ∀ m', J m' → AWl LAY ad (EX (SX sb Ls xs) kc ks LAY) μL_law (d + 301) Q 23 [(0, .ref sb), (1, .ref (ad 0)), (2, .ref (ad 187)), (3, .ref (ad 217)), (4, .int (x4 + (6 : Int32)))] [] m') : AWl LAY ad (EX (SX sb Ls xs) (kc + 1) (ks + 6) LAY) μL_law (d + 301) Q 846 [(0, .ref sb), (1, .ref (ad 0)), (2, .ref (ad 187)), (3, .ref (ad 217)), (4, .int x4)] [] m := g_L_law_846 ((ho  m hI).to (fun r m1 h => by
    obtain ⟨⟨v, rfl⟩, h2⟩ := h
    exact ⟨v, rfl, h2.to (fun r m3 h => by obtain ⟨⟨w, rfl⟩, hJ⟩ := h; exact ⟨w, rfl, K m3 hJ⟩)⟩))
def O_master (ad : Nat → Nat) (d : Nat) (I J : Wm → Prop) : Prop := ∀ a : Int32, OpW ad d μX11_master μX12_master [.int a] I J
set_option maxHeartbeats 1000000 in
theorem L_master {ad : Nat → Nat} {sb Ls kc ks d : Nat} {xs : Nat → Int32} {Q : Option Value → Wm → Prop} {m : Wm} {x4 : Int32} {I J : Wm → Prop} (hv1 : vp_in (x4 + (1 : Int32)) Ls) (ho : O_master ad d I J) (hI : I m) (K : ∀ m', J m' → AWl LAY ad (EX (SX sb Ls xs) kc ks LAY) μL_law (d + 301) Q 23 [(0, .ref sb), (1, .ref (ad 0)), (2, .ref (ad 187)), (3, .ref (ad 217)), (4, .int (x4 + (6 : Int32)))] [] m') : AWl LAY ad (EX (SX sb Ls xs) (kc + 1) (ks + 6) LAY) μL_law (d + 301) Q 859 [(0, .ref sb), (1, .ref (ad 0)), (2, .ref (ad 187)), (3, .ref (ad 217)), (4, .int x4)] [] m := g_L_law_859 ⟨hv1, (ho _ m hI).to (fun r m1 h => by
    obtain ⟨⟨v, rfl⟩, h2⟩ := h
    exact ⟨v, rfl, hv1, h2.to (fun r m3 h => by obtain ⟨⟨w, rfl⟩, hJ⟩ := h; exact ⟨w, rfl, K m3 hJ⟩)⟩)⟩
def O_table (ad : Nat → Nat) (d : Nat) (I J : Wm → Prop) : Prop := OpW ad d μX11_table μX12_table [] I J
set_option maxHeartbeats 1000000 in
theorem L_table {ad : Nat → Nat} {sb Ls kc ks d : Nat} {xs : Nat → Int32} {Q : Option Value → Wm → Prop} {m : Wm} {x4 : Int32} {I J : Wm → Prop}  (ho : O_table ad d I J) (hI : I m) (K : ∀ m', J m' → AWl LAY ad (EX (SX sb Ls xs) kc ks LAY) μL_law (d + 301) Q 23 [(0, .ref sb), (1, .ref (ad 0)), (2, .ref (ad 187)), (3, .ref (ad 217)), (4, .int (x4 + (6 : Int32)))] [] m') : AWl LAY ad (EX (SX sb Ls xs) (kc + 1) (ks + 6) LAY) μL_law (d + 301) Q 884 [(0, .ref sb), (1, .ref (ad 0)), (2, .ref (ad 187)), (3, .ref (ad 217)), (4, .int x4)] [] m := g_L_law_884 ((ho  m hI).to (fun r m1 h => by
    obtain ⟨⟨v, rfl⟩, h2⟩ := h
    exact ⟨v, rfl, h2.to (fun r m3 h => by obtain ⟨⟨w, rfl⟩, hJ⟩ := h; exact ⟨w, rfl, K m3 hJ⟩)⟩))
def O_spread (ad : Nat → Nat) (d : Nat) (I J : Wm → Prop) : Prop := OpW ad d μX11_spread μX12_spread [] I J
set_option maxHeartbeats 1000000 in
theorem L_spread {ad : Nat → Nat} {sb Ls kc ks d : Nat} {xs : Nat → Int32} {Q : Option Value → Wm → Prop} {m : Wm} {x4 : Int32} {I J : Wm → Prop}  (ho : O_spread ad d I J) (hI : I m) (K : ∀ m', J m' → AWl LAY ad (EX (SX sb Ls xs) kc ks LAY) μL_law (d + 301) Q 23 [(0, .ref sb), (1, .ref (ad 0)), (2, .ref (ad 187)), (3, .ref (ad 217)), (4, .int (x4 + (6 : Int32)))] [] m') : AWl LAY ad (EX (SX sb Ls xs) (kc + 1) (ks + 6) LAY) μL_law (d + 301) Q 897 [(0, .ref sb), (1, .ref (ad 0)), (2, .ref (ad 187)), (3, .ref (ad 217)), (4, .int x4)] [] m := g_L_law_897 ((ho  m hI).to (fun r m1 h => by
    obtain ⟨⟨v, rfl⟩, h2⟩ := h
    exact ⟨v, rfl, h2.to (fun r m3 h => by obtain ⟨⟨w, rfl⟩, hJ⟩ := h; exact ⟨w, rfl, K m3 hJ⟩)⟩))
def O_rest (ad : Nat → Nat) (d : Nat) (I J : Wm → Prop) : Prop := OpW ad d μX11_rest μX12_rest [] I J
set_option maxHeartbeats 1000000 in
theorem L_rest {ad : Nat → Nat} {sb Ls kc ks d : Nat} {xs : Nat → Int32} {Q : Option Value → Wm → Prop} {m : Wm} {x4 : Int32} {I J : Wm → Prop}  (ho : O_rest ad d I J) (hI : I m) (K : ∀ m', J m' → AWl LAY ad (EX (SX sb Ls xs) kc ks LAY) μL_law (d + 301) Q 23 [(0, .ref sb), (1, .ref (ad 0)), (2, .ref (ad 187)), (3, .ref (ad 217)), (4, .int (x4 + (6 : Int32)))] [] m') : AWl LAY ad (EX (SX sb Ls xs) (kc + 1) (ks + 6) LAY) μL_law (d + 301) Q 910 [(0, .ref sb), (1, .ref (ad 0)), (2, .ref (ad 187)), (3, .ref (ad 217)), (4, .int x4)] [] m := g_L_law_910 ((ho  m hI).to (fun r m1 h => by
    obtain ⟨⟨v, rfl⟩, h2⟩ := h
    exact ⟨v, rfl, h2.to (fun r m3 h => by obtain ⟨⟨w, rfl⟩, hJ⟩ := h; exact ⟨w, rfl, K m3 hJ⟩)⟩))
def O_mean (ad : Nat → Nat) (d : Nat) (I J : Wm → Prop) : Prop := ∀ a b : Int32, OpW ad d μX11_mean μX12_mean [.int a, .int b] I J
set_option maxHeartbeats 1000000 in
theorem L_mean {ad : Nat → Nat} {sb Ls kc ks d : Nat} {xs : Nat → Int32} {Q : Option Value → Wm → Prop} {m : Wm} {x4 : Int32} {I J : Wm → Prop} (hv1 : vp_in (x4 + (1 : Int32)) Ls) (hv2 : vp_in (x4 + (2 : Int32)) Ls) (ho : O_mean ad d I J) (hI : I m) (K : ∀ m', J m' → AWl LAY ad (EX (SX sb Ls xs) kc ks LAY) μL_law (d + 301) Q 23 [(0, .ref sb), (1, .ref (ad 0)), (2, .ref (ad 187)), (3, .ref (ad 217)), (4, .int (x4 + (6 : Int32)))] [] m') : AWl LAY ad (EX (SX sb Ls xs) (kc + 1) (ks + 6) LAY) μL_law (d + 301) Q 923 [(0, .ref sb), (1, .ref (ad 0)), (2, .ref (ad 187)), (3, .ref (ad 217)), (4, .int x4)] [] m := g_L_law_923 ⟨hv1, hv2, (ho _ _ m hI).to (fun r m1 h => by
    obtain ⟨⟨v, rfl⟩, h2⟩ := h
    exact ⟨v, rfl, hv1, hv2, h2.to (fun r m3 h => by obtain ⟨⟨w, rfl⟩, hJ⟩ := h; exact ⟨w, rfl, K m3 hJ⟩)⟩)⟩
def O_soon (ad : Nat → Nat) (d : Nat) (I J : Wm → Prop) : Prop := ∀ a b c : Int32, OpW ad d μX11_soon μX12_soon [.int a, .int b, .int c] I J
set_option maxHeartbeats 1000000 in
theorem L_soon {ad : Nat → Nat} {sb Ls kc ks d : Nat} {xs : Nat → Int32} {Q : Option Value → Wm → Prop} {m : Wm} {x4 : Int32} {I J : Wm → Prop} (hv1 : vp_in (x4 + (1 : Int32)) Ls) (hv2 : vp_in (x4 + (2 : Int32)) Ls) (hv3 : vp_in (x4 + (3 : Int32)) Ls) (ho : O_soon ad d I J) (hI : I m) (K : ∀ m', J m' → AWl LAY ad (EX (SX sb Ls xs) kc ks LAY) μL_law (d + 301) Q 23 [(0, .ref sb), (1, .ref (ad 0)), (2, .ref (ad 187)), (3, .ref (ad 217)), (4, .int (x4 + (6 : Int32)))] [] m') : AWl LAY ad (EX (SX sb Ls xs) (kc + 1) (ks + 6) LAY) μL_law (d + 301) Q 960 [(0, .ref sb), (1, .ref (ad 0)), (2, .ref (ad 187)), (3, .ref (ad 217)), (4, .int x4)] [] m := g_L_law_960 ⟨hv1, hv2, hv3, (ho _ _ _ m hI).to (fun r m1 h => by
    obtain ⟨⟨v, rfl⟩, h2⟩ := h
    exact ⟨v, rfl, hv1, hv2, hv3, h2.to (fun r m3 h => by obtain ⟨⟨w, rfl⟩, hJ⟩ := h; exact ⟨w, rfl, K m3 hJ⟩)⟩)⟩
def O_wins (ad : Nat → Nat) (d : Nat) (I J : Wm → Prop) : Prop := ∀ a b c : Int32, OpW ad d μX11_wins μX12_wins [.int a, .int b, .int c] I J
set_option maxHeartbeats 1000000 in
theorem L_wins {ad : Nat → Nat} {sb Ls kc ks d : Nat} {xs : Nat → Int32} {Q : Option Value → Wm → Prop} {m : Wm} {x4 : Int32} {I J : Wm → Prop} (hv1 : vp_in (x4 + (1 : Int32)) Ls) (hv2 : vp_in (x4 + (2 : Int32)) Ls) (hv3 : vp_in (x4 + (3 : Int32)) Ls) (ho : O_wins ad d I J) (hI : I m) (K : ∀ m', J m' → AWl LAY ad (EX (SX sb Ls xs) kc ks LAY) μL_law (d + 301) Q 23 [(0, .ref sb), (1, .ref (ad 0)), (2, .ref (ad 187)), (3, .ref (ad 217)), (4, .int (x4 + (6 : Int32)))] [] m') : AWl LAY ad (EX (SX sb Ls xs) (kc + 1) (ks + 6) LAY) μL_law (d + 301) Q 1009 [(0, .ref sb), (1, .ref (ad 0)), (2, .ref (ad 187)), (3, .ref (ad 217)), (4, .int x4)] [] m := g_L_law_1009 ⟨hv1, hv2, hv3, (ho _ _ _ m hI).to (fun r m1 h => by
    obtain ⟨⟨v, rfl⟩, h2⟩ := h
    exact ⟨v, rfl, hv1, hv2, hv3, h2.to (fun r m3 h => by obtain ⟨⟨w, rfl⟩, hJ⟩ := h; exact ⟨w, rfl, K m3 hJ⟩)⟩)⟩
def O_hopes (ad : Nat → Nat) (d : Nat) (I J : Wm → Prop) : Prop := ∀ a : Int32, OpW ad d μX11_hopes μX12_hopes [.int a] I J
set_option maxHeartbeats 1000000 in
theorem L_hopes {ad : Nat → Nat} {sb Ls kc ks d : Nat} {xs : Nat → Int32} {Q : Option Value → Wm → Prop} {m : Wm} {x4 : Int32} {I J : Wm → Prop} (hv1 : vp_in (x4 + (1 : Int32)) Ls) (ho : O_hopes ad d I J) (hI : I m) (K : ∀ m', J m' → AWl LAY ad (EX (SX sb Ls xs) kc ks LAY) μL_law (d + 301) Q 23 [(0, .ref sb), (1, .ref (ad 0)), (2, .ref (ad 187)), (3, .ref (ad 217)), (4, .int (x4 + (6 : Int32)))] [] m') : AWl LAY ad (EX (SX sb Ls xs) (kc + 1) (ks + 6) LAY) μL_law (d + 301) Q 1058 [(0, .ref sb), (1, .ref (ad 0)), (2, .ref (ad 187)), (3, .ref (ad 217)), (4, .int x4)] [] m := g_L_law_1058 ⟨hv1, (ho _ m hI).to (fun r m1 h => by
    obtain ⟨⟨v, rfl⟩, h2⟩ := h
    exact ⟨v, rfl, hv1, h2.to (fun r m3 h => by obtain ⟨⟨w, rfl⟩, hJ⟩ := h; exact ⟨w, rfl, K m3 hJ⟩)⟩)⟩
def O_top (ad : Nat → Nat) (d : Nat) (I J : Wm → Prop) : Prop := ∀ a b c : Int32, OpW ad d μX11_top μX12_top [.int a, .int b, .int c] I J
set_option maxHeartbeats 1000000 in
theorem L_top {ad : Nat → Nat} {sb Ls kc ks d : Nat} {xs : Nat → Int32} {Q : Option Value → Wm → Prop} {m : Wm} {x4 : Int32} {I J : Wm → Prop} (hv1 : vp_in (x4 + (1 : Int32)) Ls) (hv2 : vp_in (x4 + (2 : Int32)) Ls) (hv3 : vp_in (x4 + (3 : Int32)) Ls) (ho : O_top ad d I J) (hI : I m) (K : ∀ m', J m' → AWl LAY ad (EX (SX sb Ls xs) kc ks LAY) μL_law (d + 301) Q 23 [(0, .ref sb), (1, .ref (ad 0)), (2, .ref (ad 187)), (3, .ref (ad 217)), (4, .int (x4 + (6 : Int32)))] [] m') : AWl LAY ad (EX (SX sb Ls xs) (kc + 1) (ks + 6) LAY) μL_law (d + 301) Q 1083 [(0, .ref sb), (1, .ref (ad 0)), (2, .ref (ad 187)), (3, .ref (ad 217)), (4, .int x4)] [] m := g_L_law_1083 ⟨hv1, hv2, hv3, (ho _ _ _ m hI).to (fun r m1 h => by
    obtain ⟨⟨v, rfl⟩, h2⟩ := h
    exact ⟨v, rfl, hv1, hv2, hv3, h2.to (fun r m3 h => by obtain ⟨⟨w, rfl⟩, hJ⟩ := h; exact ⟨w, rfl, K m3 hJ⟩)⟩)⟩
def O_quick (ad : Nat → Nat) (d : Nat) (I J : Wm → Prop) : Prop := ∀ a : Int32, OpW ad d μX11_quick μX12_quick [.int a] I J
set_option maxHeartbeats 1000000 in
theorem L_quick {ad : Nat → Nat} {sb Ls kc ks d : Nat} {xs : Nat → Int32} {Q : Option Value → Wm → Prop} {m : Wm} {x4 : Int32} {I J : Wm → Prop} (hv1 : vp_in (x4 + (1 : Int32)) Ls) (ho : O_quick ad d I J) (hI : I m) (K : ∀ m', J m' → AWl LAY ad (EX (SX sb Ls xs) kc ks LAY) μL_law (d + 301) Q 23 [(0, .ref sb), (1, .ref (ad 0)), (2, .ref (ad 187)), (3, .ref (ad 217)), (4, .int (x4 + (6 : Int32)))] [] m') : AWl LAY ad (EX (SX sb Ls xs) (kc + 1) (ks + 6) LAY) μL_law (d + 301) Q 1132 [(0, .ref sb), (1, .ref (ad 0)), (2, .ref (ad 187)), (3, .ref (ad 217)), (4, .int x4)] [] m := g_L_law_1132 ⟨hv1, (ho _ m hI).to (fun r m1 h => by
    obtain ⟨⟨v, rfl⟩, h2⟩ := h
    exact ⟨v, rfl, hv1, h2.to (fun r m3 h => by obtain ⟨⟨w, rfl⟩, hJ⟩ := h; exact ⟨w, rfl, K m3 hJ⟩)⟩)⟩
def O_best (ad : Nat → Nat) (d : Nat) (I J : Wm → Prop) : Prop := ∀ a b : Int32, OpW ad d μX11_best μX12_best [.int a, .int b] I J
set_option maxHeartbeats 1000000 in
theorem L_best {ad : Nat → Nat} {sb Ls kc ks d : Nat} {xs : Nat → Int32} {Q : Option Value → Wm → Prop} {m : Wm} {x4 : Int32} {I J : Wm → Prop} (hv1 : vp_in (x4 + (1 : Int32)) Ls) (hv2 : vp_in (x4 + (2 : Int32)) Ls) (ho : O_best ad d I J) (hI : I m) (K : ∀ m', J m' → AWl LAY ad (EX (SX sb Ls xs) kc ks LAY) μL_law (d + 301) Q 23 [(0, .ref sb), (1, .ref (ad 0)), (2, .ref (ad 187)), (3, .ref (ad 217)), (4, .int (x4 + (6 : Int32)))] [] m') : AWl LAY ad (EX (SX sb Ls xs) (kc + 1) (ks + 6) LAY) μL_law (d + 301) Q 1157 [(0, .ref sb), (1, .ref (ad 0)), (2, .ref (ad 187)), (3, .ref (ad 217)), (4, .int x4)] [] m := g_L_law_1157 ⟨hv1, hv2, (ho _ _ m hI).to (fun r m1 h => by
    obtain ⟨⟨v, rfl⟩, h2⟩ := h
    exact ⟨v, rfl, hv1, hv2, h2.to (fun r m3 h => by obtain ⟨⟨w, rfl⟩, hJ⟩ := h; exact ⟨w, rfl, K m3 hJ⟩)⟩)⟩
def O_even (ad : Nat → Nat) (d : Nat) (I J : Wm → Prop) : Prop := ∀ a : Int32, OpW ad d μX11_even μX12_even [.int a] I J
set_option maxHeartbeats 1000000 in
theorem L_even {ad : Nat → Nat} {sb Ls kc ks d : Nat} {xs : Nat → Int32} {Q : Option Value → Wm → Prop} {m : Wm} {x4 : Int32} {I J : Wm → Prop} (hv1 : vp_in (x4 + (1 : Int32)) Ls) (ho : O_even ad d I J) (hI : I m) (K : ∀ m', J m' → AWl LAY ad (EX (SX sb Ls xs) kc ks LAY) μL_law (d + 301) Q 23 [(0, .ref sb), (1, .ref (ad 0)), (2, .ref (ad 187)), (3, .ref (ad 217)), (4, .int (x4 + (6 : Int32)))] [] m') : AWl LAY ad (EX (SX sb Ls xs) (kc + 1) (ks + 6) LAY) μL_law (d + 301) Q 1194 [(0, .ref sb), (1, .ref (ad 0)), (2, .ref (ad 187)), (3, .ref (ad 217)), (4, .int x4)] [] m := g_L_law_1194 ⟨hv1, (ho _ m hI).to (fun r m1 h => by
    obtain ⟨⟨v, rfl⟩, h2⟩ := h
    exact ⟨v, rfl, hv1, h2.to (fun r m3 h => by obtain ⟨⟨w, rfl⟩, hJ⟩ := h; exact ⟨w, rfl, K m3 hJ⟩)⟩)⟩
def O_all (ad : Nat → Nat) (d : Nat) (I J : Wm → Prop) : Prop := OpW ad d μX11_all μX12_all [] I J
set_option maxHeartbeats 1000000 in
theorem L_all {ad : Nat → Nat} {sb Ls kc ks d : Nat} {xs : Nat → Int32} {Q : Option Value → Wm → Prop} {m : Wm} {x4 : Int32} {I J : Wm → Prop}  (ho : O_all ad d I J) (hI : I m) (K : ∀ m', J m' → AWl LAY ad (EX (SX sb Ls xs) kc ks LAY) μL_law (d + 301) Q 23 [(0, .ref sb), (1, .ref (ad 0)), (2, .ref (ad 187)), (3, .ref (ad 217)), (4, .int (x4 + (6 : Int32)))] [] m') : AWl LAY ad (EX (SX sb Ls xs) (kc + 1) (ks + 6) LAY) μL_law (d + 301) Q 1219 [(0, .ref sb), (1, .ref (ad 0)), (2, .ref (ad 187)), (3, .ref (ad 217)), (4, .int x4)] [] m := g_L_law_1219 ((ho  m hI).to (fun r m1 h => by
    obtain ⟨⟨v, rfl⟩, h2⟩ := h
    exact ⟨v, rfl, h2.to (fun r m3 h => by obtain ⟨⟨w, rfl⟩, hJ⟩ := h; exact ⟨w, rfl, K m3 hJ⟩)⟩))
def O_next (ad : Nat → Nat) (d : Nat) (I J : Wm → Prop) : Prop := ∀ a : Int32, OpW ad d μX11_next μX12_next [.int a] I J
set_option maxHeartbeats 1000000 in
theorem L_next {ad : Nat → Nat} {sb Ls kc ks d : Nat} {xs : Nat → Int32} {Q : Option Value → Wm → Prop} {m : Wm} {x4 : Int32} {I J : Wm → Prop} (hv1 : vp_in (x4 + (1 : Int32)) Ls) (ho : O_next ad d I J) (hI : I m) (K : ∀ m', J m' → AWl LAY ad (EX (SX sb Ls xs) kc ks LAY) μL_law (d + 301) Q 23 [(0, .ref sb), (1, .ref (ad 0)), (2, .ref (ad 187)), (3, .ref (ad 217)), (4, .int (x4 + (6 : Int32)))] [] m') : AWl LAY ad (EX (SX sb Ls xs) (kc + 1) (ks + 6) LAY) μL_law (d + 301) Q 1232 [(0, .ref sb), (1, .ref (ad 0)), (2, .ref (ad 187)), (3, .ref (ad 217)), (4, .int x4)] [] m := g_L_law_1232 ⟨hv1, (ho _ m hI).to (fun r m1 h => by
    obtain ⟨⟨v, rfl⟩, h2⟩ := h
    exact ⟨v, rfl, hv1, h2.to (fun r m3 h => by obtain ⟨⟨w, rfl⟩, hJ⟩ := h; exact ⟨w, rfl, K m3 hJ⟩)⟩)⟩
def O_seen (ad : Nat → Nat) (d : Nat) (I J : Wm → Prop) : Prop := ∀ a b c : Int32, OpW ad d μX11_seen μX12_seen [.int a, .int b, .int c] I J
set_option maxHeartbeats 1000000 in
theorem L_seen {ad : Nat → Nat} {sb Ls kc ks d : Nat} {xs : Nat → Int32} {Q : Option Value → Wm → Prop} {m : Wm} {x4 : Int32} {I J : Wm → Prop} (hv1 : vp_in (x4 + (1 : Int32)) Ls) (hv2 : vp_in (x4 + (2 : Int32)) Ls) (hv3 : vp_in (x4 + (3 : Int32)) Ls) (ho : O_seen ad d I J) (hI : I m) (K : ∀ m', J m' → AWl LAY ad (EX (SX sb Ls xs) kc ks LAY) μL_law (d + 301) Q 23 [(0, .ref sb), (1, .ref (ad 0)), (2, .ref (ad 187)), (3, .ref (ad 217)), (4, .int (x4 + (6 : Int32)))] [] m') : AWl LAY ad (EX (SX sb Ls xs) (kc + 1) (ks + 6) LAY) μL_law (d + 301) Q 1257 [(0, .ref sb), (1, .ref (ad 0)), (2, .ref (ad 187)), (3, .ref (ad 217)), (4, .int x4)] [] m := g_L_law_1257 ⟨hv1, hv2, hv3, (ho _ _ _ m hI).to (fun r m1 h => by
    obtain ⟨⟨v, rfl⟩, h2⟩ := h
    exact ⟨v, rfl, hv1, hv2, hv3, h2.to (fun r m3 h => by obtain ⟨⟨w, rfl⟩, hJ⟩ := h; exact ⟨w, rfl, K m3 hJ⟩)⟩)⟩
def O_found (ad : Nat → Nat) (d : Nat) (I J : Wm → Prop) : Prop := OpW ad d μX11_found μX12_found [] I J
set_option maxHeartbeats 1000000 in
theorem L_found {ad : Nat → Nat} {sb Ls kc ks d : Nat} {xs : Nat → Int32} {Q : Option Value → Wm → Prop} {m : Wm} {x4 : Int32} {I J : Wm → Prop}  (ho : O_found ad d I J) (hI : I m) (K : ∀ m', J m' → AWl LAY ad (EX (SX sb Ls xs) kc ks LAY) μL_law (d + 301) Q 23 [(0, .ref sb), (1, .ref (ad 0)), (2, .ref (ad 187)), (3, .ref (ad 217)), (4, .int (x4 + (6 : Int32)))] [] m') : AWl LAY ad (EX (SX sb Ls xs) (kc + 1) (ks + 6) LAY) μL_law (d + 301) Q 1306 [(0, .ref sb), (1, .ref (ad 0)), (2, .ref (ad 187)), (3, .ref (ad 217)), (4, .int x4)] [] m := g_L_law_1306 ((ho  m hI).to (fun r m1 h => by
    obtain ⟨⟨v, rfl⟩, h2⟩ := h
    exact ⟨v, rfl, h2.to (fun r m3 h => by obtain ⟨⟨w, rfl⟩, hJ⟩ := h; exact ⟨w, rfl, K m3 hJ⟩)⟩))
def O_prize (ad : Nat → Nat) (d : Nat) (I J : Wm → Prop) : Prop := OpW ad d μX11_prize μX12_prize [] I J
set_option maxHeartbeats 1000000 in
theorem L_prize {ad : Nat → Nat} {sb Ls kc ks d : Nat} {xs : Nat → Int32} {Q : Option Value → Wm → Prop} {m : Wm} {x4 : Int32} {I J : Wm → Prop}  (ho : O_prize ad d I J) (hI : I m) (K : ∀ m', J m' → AWl LAY ad (EX (SX sb Ls xs) kc ks LAY) μL_law (d + 301) Q 23 [(0, .ref sb), (1, .ref (ad 0)), (2, .ref (ad 187)), (3, .ref (ad 217)), (4, .int (x4 + (6 : Int32)))] [] m') : AWl LAY ad (EX (SX sb Ls xs) (kc + 1) (ks + 6) LAY) μL_law (d + 301) Q 1319 [(0, .ref sb), (1, .ref (ad 0)), (2, .ref (ad 187)), (3, .ref (ad 217)), (4, .int x4)] [] m := g_L_law_1319 ((ho  m hI).to (fun r m1 h => by
    obtain ⟨⟨v, rfl⟩, h2⟩ := h
    exact ⟨v, rfl, h2.to (fun r m3 h => by obtain ⟨⟨w, rfl⟩, hJ⟩ := h; exact ⟨w, rfl, K m3 hJ⟩)⟩))
def O_pays (ad : Nat → Nat) (d : Nat) (I J : Wm → Prop) : Prop := ∀ a b : Int32, OpW ad d μX11_pays μX12_pays [.int a, .int b] I J
set_option maxHeartbeats 1000000 in
theorem L_pays {ad : Nat → Nat} {sb Ls kc ks d : Nat} {xs : Nat → Int32} {Q : Option Value → Wm → Prop} {m : Wm} {x4 : Int32} {I J : Wm → Prop} (hv1 : vp_in (x4 + (1 : Int32)) Ls) (hv2 : vp_in (x4 + (2 : Int32)) Ls) (ho : O_pays ad d I J) (hI : I m) (K : ∀ m', J m' → AWl LAY ad (EX (SX sb Ls xs) kc ks LAY) μL_law (d + 301) Q 23 [(0, .ref sb), (1, .ref (ad 0)), (2, .ref (ad 187)), (3, .ref (ad 217)), (4, .int (x4 + (6 : Int32)))] [] m') : AWl LAY ad (EX (SX sb Ls xs) (kc + 1) (ks + 6) LAY) μL_law (d + 301) Q 1332 [(0, .ref sb), (1, .ref (ad 0)), (2, .ref (ad 187)), (3, .ref (ad 217)), (4, .int x4)] [] m := g_L_law_1332 ⟨hv1, hv2, (ho _ _ m hI).to (fun r m1 h => by
    obtain ⟨⟨v, rfl⟩, h2⟩ := h
    exact ⟨v, rfl, hv1, hv2, h2.to (fun r m3 h => by obtain ⟨⟨w, rfl⟩, hJ⟩ := h; exact ⟨w, rfl, K m3 hJ⟩)⟩)⟩
def O_laws (ad : Nat → Nat) (d : Nat) (I J : Wm → Prop) : Prop := ∀ a : Int32, OpW ad d μX11_laws μX12_laws [.int a] I J
set_option maxHeartbeats 1000000 in
theorem L_laws {ad : Nat → Nat} {sb Ls kc ks d : Nat} {xs : Nat → Int32} {Q : Option Value → Wm → Prop} {m : Wm} {x4 : Int32} {I J : Wm → Prop} (hv1 : vp_in (x4 + (1 : Int32)) Ls) (ho : O_laws ad d I J) (hI : I m) (K : ∀ m', J m' → AWl LAY ad (EX (SX sb Ls xs) kc ks LAY) μL_law (d + 301) Q 23 [(0, .ref sb), (1, .ref (ad 0)), (2, .ref (ad 187)), (3, .ref (ad 217)), (4, .int (x4 + (6 : Int32)))] [] m') : AWl LAY ad (EX (SX sb Ls xs) (kc + 1) (ks + 6) LAY) μL_law (d + 301) Q 1369 [(0, .ref sb), (1, .ref (ad 0)), (2, .ref (ad 187)), (3, .ref (ad 217)), (4, .int x4)] [] m := g_L_law_1369 ⟨hv1, (ho _ m hI).to (fun r m1 h => by
    obtain ⟨⟨v, rfl⟩, h2⟩ := h
    exact ⟨v, rfl, hv1, h2.to (fun r m3 h => by obtain ⟨⟨w, rfl⟩, hJ⟩ := h; exact ⟨w, rfl, K m3 hJ⟩)⟩)⟩
def O_seed (ad : Nat → Nat) (d : Nat) (I J : Wm → Prop) : Prop := ∀ a : Int32, OpW ad d μX11_seed μX12_seed [.int a] I J
set_option maxHeartbeats 1000000 in
theorem L_seed {ad : Nat → Nat} {sb Ls kc ks d : Nat} {xs : Nat → Int32} {Q : Option Value → Wm → Prop} {m : Wm} {x4 : Int32} {I J : Wm → Prop} (hv1 : vp_in (x4 + (1 : Int32)) Ls) (ho : O_seed ad d I J) (hI : I m) (K : ∀ m', J m' → AWl LAY ad (EX (SX sb Ls xs) kc ks LAY) μL_law (d + 301) Q 23 [(0, .ref sb), (1, .ref (ad 0)), (2, .ref (ad 187)), (3, .ref (ad 217)), (4, .int (x4 + (6 : Int32)))] [] m') : AWl LAY ad (EX (SX sb Ls xs) (kc + 1) (ks + 6) LAY) μL_law (d + 301) Q 1394 [(0, .ref sb), (1, .ref (ad 0)), (2, .ref (ad 187)), (3, .ref (ad 217)), (4, .int x4)] [] m := g_L_law_1394 ⟨hv1, (ho _ m hI).to (fun r m1 h => by
    obtain ⟨⟨v, rfl⟩, h2⟩ := h
    exact ⟨v, rfl, hv1, h2.to (fun r m3 h => by obtain ⟨⟨w, rfl⟩, hJ⟩ := h; exact ⟨w, rfl, K m3 hJ⟩)⟩)⟩
def O_keep (ad : Nat → Nat) (d : Nat) (I J : Wm → Prop) : Prop := ∀ a : Int32, OpW ad d μX11_keep μX12_keep [.int a] I J
set_option maxHeartbeats 1000000 in
theorem L_keep {ad : Nat → Nat} {sb Ls kc ks d : Nat} {xs : Nat → Int32} {Q : Option Value → Wm → Prop} {m : Wm} {x4 : Int32} {I J : Wm → Prop} (hv1 : vp_in (x4 + (1 : Int32)) Ls) (ho : O_keep ad d I J) (hI : I m) (K : ∀ m', J m' → AWl LAY ad (EX (SX sb Ls xs) kc ks LAY) μL_law (d + 301) Q 23 [(0, .ref sb), (1, .ref (ad 0)), (2, .ref (ad 187)), (3, .ref (ad 217)), (4, .int (x4 + (6 : Int32)))] [] m') : AWl LAY ad (EX (SX sb Ls xs) (kc + 1) (ks + 6) LAY) μL_law (d + 301) Q 1419 [(0, .ref sb), (1, .ref (ad 0)), (2, .ref (ad 187)), (3, .ref (ad 217)), (4, .int x4)] [] m := g_L_law_1419 ⟨hv1, (ho _ m hI).to (fun r m1 h => by
    obtain ⟨⟨v, rfl⟩, h2⟩ := h
    exact ⟨v, rfl, hv1, h2.to (fun r m3 h => by obtain ⟨⟨w, rfl⟩, hJ⟩ := h; exact ⟨w, rfl, K m3 hJ⟩)⟩)⟩
def O_again (ad : Nat → Nat) (d : Nat) (I J : Wm → Prop) : Prop := ∀ a : Int32, OpW ad d μX11_again μX12_again [.int a] I J
set_option maxHeartbeats 1000000 in
theorem L_again {ad : Nat → Nat} {sb Ls kc ks d : Nat} {xs : Nat → Int32} {Q : Option Value → Wm → Prop} {m : Wm} {x4 : Int32} {I J : Wm → Prop} (hv1 : vp_in (x4 + (1 : Int32)) Ls) (ho : O_again ad d I J) (hI : I m) (K : ∀ m', J m' → AWl LAY ad (EX (SX sb Ls xs) kc ks LAY) μL_law (d + 301) Q 23 [(0, .ref sb), (1, .ref (ad 0)), (2, .ref (ad 187)), (3, .ref (ad 217)), (4, .int (x4 + (6 : Int32)))] [] m') : AWl LAY ad (EX (SX sb Ls xs) (kc + 1) (ks + 6) LAY) μL_law (d + 301) Q 1444 [(0, .ref sb), (1, .ref (ad 0)), (2, .ref (ad 187)), (3, .ref (ad 217)), (4, .int x4)] [] m := g_L_law_1444 ⟨hv1, (ho _ m hI).to (fun r m1 h => by
    obtain ⟨⟨v, rfl⟩, h2⟩ := h
    exact ⟨v, rfl, hv1, h2.to (fun r m3 h => by obtain ⟨⟨w, rfl⟩, hJ⟩ := h; exact ⟨w, rfl, K m3 hJ⟩)⟩)⟩
def O_count (ad : Nat → Nat) (d : Nat) (I J : Wm → Prop) : Prop := ∀ a : Int32, OpW ad d μX11_count μX12_count [.int a] I J
set_option maxHeartbeats 1000000 in
theorem L_count {ad : Nat → Nat} {sb Ls kc ks d : Nat} {xs : Nat → Int32} {Q : Option Value → Wm → Prop} {m : Wm} {x4 : Int32} {I J : Wm → Prop} (hv1 : vp_in (x4 + (1 : Int32)) Ls) (ho : O_count ad d I J) (hI : I m) (K : ∀ m', J m' → AWl LAY ad (EX (SX sb Ls xs) kc ks LAY) μL_law (d + 301) Q 23 [(0, .ref sb), (1, .ref (ad 0)), (2, .ref (ad 187)), (3, .ref (ad 217)), (4, .int (x4 + (6 : Int32)))] [] m') : AWl LAY ad (EX (SX sb Ls xs) (kc + 1) (ks + 6) LAY) μL_law (d + 301) Q 1469 [(0, .ref sb), (1, .ref (ad 0)), (2, .ref (ad 187)), (3, .ref (ad 217)), (4, .int x4)] [] m := g_L_law_1469 ⟨hv1, (ho _ m hI).to (fun r m1 h => by
    obtain ⟨⟨v, rfl⟩, h2⟩ := h
    exact ⟨v, rfl, hv1, h2.to (fun r m3 h => by obtain ⟨⟨w, rfl⟩, hJ⟩ := h; exact ⟨w, rfl, K m3 hJ⟩)⟩)⟩
def O_row (ad : Nat → Nat) (d : Nat) (I J : Wm → Prop) : Prop := ∀ a : Int32, OpRowW ad d a I J
set_option maxHeartbeats 1000000 in
theorem L_row {ad : Nat → Nat} {sb Ls kc ks d : Nat} {xs : Nat → Int32} {Q : Option Value → Wm → Prop} {m : Wm} {x4 : Int32} {I J : Wm → Prop} (hv1 : vp_in (x4 + (1 : Int32)) Ls) (ho : O_row ad d I J) (hI : I m) (K : ∀ m', J m' → AWl LAY ad (EX (SX sb Ls xs) kc ks LAY) μL_law (d + 301) Q 23 [(0, .ref sb), (1, .ref (ad 0)), (2, .ref (ad 187)), (3, .ref (ad 217)), (4, .int (x4 + (6 : Int32)))] [] m') : AWl LAY ad (EX (SX sb Ls xs) (kc + 1) (ks + 6) LAY) μL_law (d + 301) Q 1494 [(0, .ref sb), (1, .ref (ad 0)), (2, .ref (ad 187)), (3, .ref (ad 217)), (4, .int x4)] [] m := g_L_law_1494 ⟨hv1, Ctg.mono (ho _ m hI) (fun r m1 h => by
    obtain ⟨⟨v, rfl⟩, h2⟩ := h
    refine ⟨v, rfl, hv1, h2.to (fun r m3 h => ?_)⟩
    obtain ⟨⟨w, rfl⟩, hJ⟩ := h
    exact ⟨w, rfl, K m3 hJ⟩)⟩
def OPS (ad : Nat → Nat) (d : Nat) (I J : Wm → Prop) : Prop := O_sign ad d I J ∧ O_end ad d I J ∧ O_league ad d I J ∧ O_rule ad d I J ∧ O_plan ad d I J ∧ O_skill ad d I J ∧ O_of ad d I J ∧ O_law ad d I J ∧ O_sheet ad d I J ∧ O_ill ad d I J ∧ O_swap ad d I J ∧ O_circle ad d I J ∧ O_game ad d I J ∧ O_odds ad d I J ∧ O_play ad d I J ∧ O_undo ad d I J ∧ O_judge ad d I J ∧ O_rounds ad d I J ∧ O_beats ad d I J ∧ O_kings ad d I J ∧ O_master ad d I J ∧ O_table ad d I J ∧ O_spread ad d I J ∧ O_rest ad d I J ∧ O_mean ad d I J ∧ O_soon ad d I J ∧ O_wins ad d I J ∧ O_hopes ad d I J ∧ O_top ad d I J ∧ O_quick ad d I J ∧ O_best ad d I J ∧ O_even ad d I J ∧ O_all ad d I J ∧ O_next ad d I J ∧ O_seen ad d I J ∧ O_found ad d I J ∧ O_prize ad d I J ∧ O_pays ad d I J ∧ O_laws ad d I J ∧ O_seed ad d I J ∧ O_keep ad d I J ∧ O_again ad d I J ∧ O_count ad d I J ∧ O_row ad d I J ∧ ∀ m, I m → J m
set_option maxRecDepth 100000 in
set_option maxHeartbeats 4000000 in
theorem law_step {ad : Nat → Nat} {sb Ls kc ks d : Nat} {xs : Nat → Int32} {Q : Option Value → Wm → Prop} {m : Wm} {x4 : Int32} {I J : Wm → Prop} (hn : ¬ (Int32.ofNat Ls) - (6 : Int32) < x4) (hv0 : vp_in x4 Ls) (hv1 : vp_in (x4 + (1 : Int32)) Ls) (hv2 : vp_in (x4 + (2 : Int32)) Ls) (hv3 : vp_in (x4 + (3 : Int32)) Ls) (hv4 : vp_in (x4 + (4 : Int32)) Ls) (hv5 : vp_in (x4 + (5 : Int32)) Ls) (hO : OPS ad d I J) (hI : I m) (K : ∀ m', J m' → AWl LAY ad (EX (SX sb Ls xs) kc ks LAY) μL_law (d + 301) Q 23 [(0, .ref sb), (1, .ref (ad 0)), (2, .ref (ad 187)), (3, .ref (ad 217)), (4, .int (x4 + (6 : Int32)))] [] m') : AWl LAY ad (EX (SX sb Ls xs) (kc + 1) (ks + 6) LAY) μL_law (d + 301) Q 23 [(0, .ref sb), (1, .ref (ad 0)), (2, .ref (ad 187)), (3, .ref (ad 217)), (4, .int x4)] [] m := by
  obtain ⟨h_sign, h_end, h_league, h_rule, h_plan, h_skill, h_of, h_law, h_sheet, h_ill, h_swap, h_circle, h_game, h_odds, h_play, h_undo, h_judge, h_rounds, h_beats, h_kings, h_master, h_table, h_spread, h_rest, h_mean, h_soon, h_wins, h_hopes, h_top, h_quick, h_best, h_even, h_all, h_next, h_seen, h_found, h_prize, h_pays, h_laws, h_seed, h_keep, h_again, h_count, h_row, hdef⟩ := hO
  exact g_L_law_23 ⟨fun h => absurd h hn, fun _ => ⟨hv0, fun _ => L_sign hv1 h_sign hI K, fun _ => L_end hv1 h_end hI K, fun _ => L_league h_league hI K, fun _ => L_rule h_rule hI K, fun _ => L_plan h_plan hI K, fun _ => L_skill hv1 hv2 h_skill hI K, fun _ => L_of hv1 hv2 h_of hI K, fun _ => L_law hv1 hv2 h_law hI K, fun _ => L_sheet hv1 hv2 hv3 hv4 hv5 h_sheet hI K, fun _ => L_ill hv1 hv2 h_ill hI K, fun _ => L_swap hv1 hv2 h_swap hI K, fun _ => L_circle h_circle hI K, fun _ => L_game hv1 hv2 hv3 h_game hI K, fun _ => L_odds hv1 hv2 h_odds hI K, fun _ => L_play hv1 hv2 hv3 h_play hI K, fun _ => L_undo h_undo hI K, fun _ => L_judge hv1 hv2 h_judge hI K, fun _ => L_rounds hv1 h_rounds hI K, fun _ => L_beats hv1 h_beats hI K, fun _ => L_kings h_kings hI K, fun _ => L_master hv1 h_master hI K, fun _ => L_table h_table hI K, fun _ => L_spread h_spread hI K, fun _ => L_rest h_rest hI K, fun _ => L_mean hv1 hv2 h_mean hI K, fun _ => L_soon hv1 hv2 hv3 h_soon hI K, fun _ => L_wins hv1 hv2 hv3 h_wins hI K, fun _ => L_hopes hv1 h_hopes hI K, fun _ => L_top hv1 hv2 hv3 h_top hI K, fun _ => L_quick hv1 h_quick hI K, fun _ => L_best hv1 hv2 h_best hI K, fun _ => L_even hv1 h_even hI K, fun _ => L_all h_all hI K, fun _ => L_next hv1 h_next hI K, fun _ => L_seen hv1 hv2 hv3 h_seen hI K, fun _ => L_found h_found hI K, fun _ => L_prize h_prize hI K, fun _ => L_pays hv1 hv2 h_pays hI K, fun _ => L_laws hv1 h_laws hI K, fun _ => L_seed hv1 h_seed hI K, fun _ => L_keep hv1 h_keep hI K, fun _ => L_again hv1 h_again hI K, fun _ => L_count hv1 h_count hI K, fun _ => L_row hv1 h_row hI K, fun _ _ _ _ _ _ _ _ _ _ _ _ _ _ _ _ _ _ _ _ _ _ _ _ _ _ _ _ _ _ _ _ _ _ _ _ _ _ _ _ _ _ _ _ => K m (hdef m hI)⟩⟩
theorem i32_sub6 {L : Nat} (h : L ≤ 3072) : ((Int32.ofNat L) - (6 : Int32)).toInt = (L : Int) - 6 := by
  rcases Nat.lt_or_ge L 6 with h6 | h6
  · have : L = 0 ∨ L = 1 ∨ L = 2 ∨ L = 3 ∨ L = 4 ∨ L = 5 := by omega
    rcases this with rfl | rfl | rfl | rfl | rfl | rfl <;> decide
  · obtain ⟨k, rfl⟩ : ∃ k, L = k + 6 := ⟨L - 6, by omega⟩
    have e : Int32.ofNat (k + 6) - (6 : Int32) = nI k := by
      have : Int32.ofNat (k + 6) = nI k + nI 6 := (nI_add k 6).symm
      rw [this]
      show nI k + nI 6 - nI 6 = nI k
      exact Int32.add_sub_cancel _ _
    rw [e, nI_toInt (by omega)]
    omega
theorem law_loop {ad : Nat → Nat} {sb Ls d n0 : Nat} {xs : Nat → Int32} {Inv : Nat → Wm → Prop} (hL : Ls ≤ 3072) (h0 : Ls / 6 = n0) (hop : ∀ k, k < n0 → OPS ad d (Inv k) (Inv (k + 1))) : ∀ (n k : Nat) (m : Wm), k + n = n0 → Inv k m → AWl LAY ad (EX (SX sb Ls xs) (n + 1) (6 * n + 6) LAY) μL_law (d + 301) (fun v _ => v = some (.int 1)) 23 [(0, .ref sb), (1, .ref (ad 0)), (2, .ref (ad 187)), (3, .ref (ad 217)), (4, .int (nI (6 * k)))] [] m := by
  intro n
  have six : (6 : Int32) = nI 6 := rfl
  induction n with
  | zero =>
    intro k m hk hI
    refine g_L_law_23 ⟨fun _ => rfl, fun h => absurd ?_ h⟩
    rw [fa_lt, i32_sub6 hL, nI_toInt (by omega)]
    omega
  | succ n ih =>
    intro k m hk hI
    have hv : ∀ j, j < 6 → vp_in (nI (6 * k) + nI j) Ls := fun j hj => by
      rw [nI_add]
      exact vp_in_nI (by omega) (by omega)
    refine law_step (J := Inv (k + 1)) ?_ (by have := hv 0 (by omega); rwa [nI_add] at this) (hv 1 (by omega)) (hv 2 (by omega)) (hv 3 (by omega)) (hv 4 (by omega)) (hv 5 (by omega)) (hop k (by omega)) hI (fun m' hJ => ?_)
    · rw [fa_lt, i32_sub6 hL, nI_toInt (by omega)]
      omega
    · have e : nI (6 * k) + (6 : Int32) = nI (6 * (k + 1)) := by rw [six, nI_add]; rfl
      rw [e]
      exact ih (k + 1) m' (by omega) hJ
