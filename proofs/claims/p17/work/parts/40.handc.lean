/-! the model's layouts of its league keep types and regions; what they change -/
section LB
variable {ad : Nat → Nat} {d : Nat} {m : Wm}
theorem WT.same {m m' : Wm} (h : WT m) (h1 : ∀ a k, TY a k ≠ none → m'.1 a k = m.1 a k) (h2 : m'.2.2 = m.2.2) : WT m' := by
  refine ⟨fun a k lo hi e => ?_, by rw [h2]; exact h.2⟩
  rw [h1 a k (by rw [e]; exact fun q => by cases q)]
  exact h.1 a k lo hi e
theorem s_lay {a na reg : Nat} {x2 : Int32} (ha : LAY[a]? = some (.inr (0, na))) (hn : ∀ b ∈ [187, 188, 190, 191, 192], b ≠ a) (hb : na < 100000) (hty : ∀ k, TY a k = none) (hrg : ∀ k, RS [reg] a k) (w : WT m) (i1 : (0 : Int) ≤ x2.toInt) (i2 : x2.toInt + 57 ≤ (na : Int)) : Ct ad μX12_lay d [.ref (ad 187), .ref (ad a), .int x2] m (fun r m' => WT m' ∧ Fx (RS [reg]) m m' ∧ r = none) := by
  obtain ⟨s, hs, rfl⟩ := zn_of i1
  rw [nI_toInt hs] at i2
  refine (layC ha hn (by omega) hb).to ?_
  rintro _ m' ⟨rfl, e⟩
  obtain rfl := e
  refine ⟨w.same (fun b k h => layM_at (fun q => h (by rw [q]; exact hty k))) rfl, fun b k h => ⟨layM_at (fun q => h (by rw [q]; exact hrg k)), rfl, rfl⟩, rfl⟩
theorem tgt_rg : ∀ i : Fin 57, TY (tgt i.val).1 (tgt i.val).2 = none ∧ RS [24, 49] (tgt i.val).1 (tgt i.val).2 := by decide +kernel
theorem RS_of {a k ρ : Nat} (h : rg a k = ρ) : RS [ρ] a k := by subst h; unfold RS; simp
theorem s_bring {a na : Nat} {x2 : Int32} (ha : LAY[a]? = some (.inr (0, na))) (hn : ∀ b ∈ [187, 188, 190, 191, 192], b ≠ a) (hb : na < 100000) (w : WT m) (i1 : (0 : Int) ≤ x2.toInt) (i2 : x2.toInt + 57 ≤ (na : Int)) : Ct ad μX12_bring d [.ref (ad 187), .ref (ad a), .int x2] m (fun r m' => WT m' ∧ Fx (RS [24, 49]) m m' ∧ r = none) := by
  obtain ⟨s, hs, rfl⟩ := zn_of i1
  rw [nI_toInt hs] at i2
  refine (bringC ha hn (by omega) hb).to ?_
  rintro _ m' ⟨rfl, e⟩
  obtain rfl := e
  refine ⟨w.same (fun b k h => brM_out (fun i q => h ?_) (Nat.le_refl _)) (congrArg Prod.snd (brM_2 57)), fun b k h => ⟨brM_out (fun i q => h ?_) (Nat.le_refl _), ?_, ?_⟩, rfl⟩
  · have := (tgt_rg i).1; rw [q] at this; exact this
  · have := (tgt_rg i).2; rw [q] at this; exact this
  · rw [brM_2 57]
  · rw [brM_2 57]
theorem s_X12_lay_201 {x2 : Int32} (w : WT m) (i1 : (0 : Int) ≤ x2.toInt) (i2 : x2.toInt ≤ (1083 : Int)) : Ct ad μX12_lay d [.ref (ad 187), .ref (ad 201), .int x2] m (fun r m' => WT m' ∧ Fx (RS [29]) m m' ∧ r = none ∧ ((m'.1 187 30).toInt = (m.1 187 30).toInt)) := by
  obtain ⟨s, hs, rfl⟩ := zn_of i1
  rw [nI_toInt hs] at i2
  refine (layC (na := 1140) rfl (by decide) (by omega) (by decide)).to ?_
  rintro _ m' ⟨rfl, e⟩
  obtain rfl := e
  refine ⟨w.same (fun b k h => layM_at (fun q => h (by rw [q]; rfl))) rfl, fun b k h => ⟨layM_at (fun q => h (by rw [q]; rfl)), rfl, rfl⟩, rfl, ?_⟩
  rw [layM_at (by decide)]
theorem s_X12_bring_201 {x2 : Int32} (w : WT m) (i1 : (0 : Int) ≤ x2.toInt) (i2 : x2.toInt ≤ (1083 : Int)) : Ct ad μX12_bring d [.ref (ad 187), .ref (ad 201), .int x2] m (fun r m' => WT m' ∧ Fx (RS [24, 49]) m m' ∧ r = none) := s_bring (na := 1140) rfl (by decide) (by decide) w i1 (by omega)
theorem s_X12_lay_202 {x2 : Int32} (w : WT m) (i1 : (0 : Int) ≤ x2.toInt) (i2 : x2.toInt ≤ (0 : Int)) : Ct ad μX12_lay d [.ref (ad 187), .ref (ad 202), .int x2] m (fun r m' => WT m' ∧ Fx (RS [30]) m m' ∧ r = none) := s_lay (na := 57) rfl (by decide) (by decide) (fun _ => rfl) (fun _ => rfl) w i1 (by omega)
theorem s_X12_bring_202 {x2 : Int32} (w : WT m) (i1 : (0 : Int) ≤ x2.toInt) (i2 : x2.toInt ≤ (0 : Int)) : Ct ad μX12_bring d [.ref (ad 187), .ref (ad 202), .int x2] m (fun r m' => WT m' ∧ Fx (RS [24, 49]) m m' ∧ r = none) := s_bring (na := 57) rfl (by decide) (by decide) w i1 (by omega)
theorem s_X12_lay_204 {x2 : Int32} (w : WT m) (i1 : (0 : Int) ≤ x2.toInt) (i2 : x2.toInt ≤ (0 : Int)) : Ct ad μX12_lay d [.ref (ad 187), .ref (ad 204), .int x2] m (fun r m' => WT m' ∧ Fx (RS [34]) m m' ∧ r = none) := s_lay (na := 57) rfl (by decide) (by decide) (fun _ => rfl) (fun _ => rfl) w i1 (by omega)
theorem s_X12_bring_204 {x2 : Int32} (w : WT m) (i1 : (0 : Int) ≤ x2.toInt) (i2 : x2.toInt ≤ (0 : Int)) : Ct ad μX12_bring d [.ref (ad 187), .ref (ad 204), .int x2] m (fun r m' => WT m' ∧ Fx (RS [24, 49]) m m' ∧ r = none) := s_bring (na := 57) rfl (by decide) (by decide) w i1 (by omega)
theorem s_X12_lay_211 {x2 : Int32} (w : WT m) (i1 : (0 : Int) ≤ x2.toInt) (i2 : x2.toInt ≤ (342 : Int)) : Ct ad μX12_lay d [.ref (ad 187), .ref (ad 211), .int x2] m (fun r m' => WT m' ∧ Fx (RS [36]) m m' ∧ r = none) := s_lay (na := 399) rfl (by decide) (by decide) (fun _ => rfl) (fun _ => rfl) w i1 (by omega)
theorem s_X12_bring_211 {x2 : Int32} (w : WT m) (i1 : (0 : Int) ≤ x2.toInt) (i2 : x2.toInt ≤ (342 : Int)) : Ct ad μX12_bring d [.ref (ad 187), .ref (ad 211), .int x2] m (fun r m' => WT m' ∧ Fx (RS [24, 49]) m m' ∧ r = none) := s_bring (na := 399) rfl (by decide) (by decide) w i1 (by omega)
theorem s_X12_lay_214 {x2 : Int32} (w : WT m) (i1 : (0 : Int) ≤ x2.toInt) (i2 : x2.toInt ≤ (71 : Int)) : Ct ad μX12_lay d [.ref (ad 187), .ref (ad 214), .int x2] m (fun r m' => WT m' ∧ Fx (RS [40]) m m' ∧ r = none) := s_lay (na := 142) rfl (by decide) (by decide) (fun _ => rfl) (fun _ => rfl) w i1 (by omega)
theorem s_X12_bring_214 {x2 : Int32} (w : WT m) (i1 : (0 : Int) ≤ x2.toInt) (i2 : x2.toInt ≤ (71 : Int)) : Ct ad μX12_bring d [.ref (ad 187), .ref (ad 214), .int x2] m (fun r m' => WT m' ∧ Fx (RS [24, 49]) m m' ∧ r = none) := s_bring (na := 142) rfl (by decide) (by decide) w i1 (by omega)
theorem ix_p40 {x : Int32} (hx : 0 ≤ x.toInt ∧ x.toInt ≤ 39) : ((4 : Int32) * x).toNatClampNeg % 4 = 0 := by
  have t1 := ti_mulc (c := 4) (y := 4) (x := x) rfl (by omega)
  have t2 := tn (x := (4 : Int32) * x) (by omega)
  omega
theorem WT.p40 (h : WT m) {x : Int32} (hx : 0 ≤ x.toInt ∧ x.toInt ≤ 39) : 0 ≤ (m.1 194 ((4 : Int32) * x).toNatClampNeg).toInt ∧ (m.1 194 ((4 : Int32) * x).toNatClampNeg).toInt ≤ 7 := h.at (by show (if _ % 4 < 2 then _ else _) = _; rw [ix_p40 hx]; rfl)
theorem WT.up0 (h : WT m) {x v : Int32} (hx : 0 ≤ x.toInt ∧ x.toInt ≤ 39) (hv : 0 ≤ v.toInt ∧ v.toInt ≤ 7) : WT (uI m 194 ((4 : Int32) * x).toNatClampNeg v) := h.t (lo := 0) (hi := 7) (by show (if _ % 4 < 2 then _ else _) = _; rw [ix_p40 hx]; rfl) hv.1 hv.2
theorem ix_p41 {x : Int32} (hx : 0 ≤ x.toInt ∧ x.toInt ≤ 39) : (((4 : Int32) * x) + (1 : Int32)).toNatClampNeg % 4 = 1 := by
  have t0 := ti_mulc (c := 4) (y := 4) (x := x) rfl (by omega)
  have t1 := ti_addc (x := (4 : Int32) * x) (y := 1) (c := 1) rfl (by omega)
  have t2 := tn (x := (4 : Int32) * x + 1) (by omega)
  omega
theorem WT.p41 (h : WT m) {x : Int32} (hx : 0 ≤ x.toInt ∧ x.toInt ≤ 39) : 0 ≤ (m.1 194 (((4 : Int32) * x) + (1 : Int32)).toNatClampNeg).toInt ∧ (m.1 194 (((4 : Int32) * x) + (1 : Int32)).toNatClampNeg).toInt ≤ 7 := h.at (by show (if _ % 4 < 2 then _ else _) = _; rw [ix_p41 hx]; rfl)
theorem WT.up1 (h : WT m) {x v : Int32} (hx : 0 ≤ x.toInt ∧ x.toInt ≤ 39) (hv : 0 ≤ v.toInt ∧ v.toInt ≤ 7) : WT (uI m 194 (((4 : Int32) * x) + (1 : Int32)).toNatClampNeg v) := h.t (lo := 0) (hi := 7) (by show (if _ % 4 < 2 then _ else _) = _; rw [ix_p41 hx]; rfl) hv.1 hv.2
theorem ix_p42 {x : Int32} (hx : 0 ≤ x.toInt ∧ x.toInt ≤ 39) : (((4 : Int32) * x) + (2 : Int32)).toNatClampNeg % 4 = 2 := by
  have t0 := ti_mulc (c := 4) (y := 4) (x := x) rfl (by omega)
  have t1 := ti_addc (x := (4 : Int32) * x) (y := 2) (c := 2) rfl (by omega)
  have t2 := tn (x := (4 : Int32) * x + 2) (by omega)
  omega
theorem WT.up2 (h : WT m) {x v : Int32} (hx : 0 ≤ x.toInt ∧ x.toInt ≤ 39) : WT (uI m 194 (((4 : Int32) * x) + (2 : Int32)).toNatClampNeg v) := h.n (by show (if _ % 4 < 2 then _ else _) = _; rw [ix_p42 hx]; rfl)
theorem ix_p43 {x : Int32} (hx : 0 ≤ x.toInt ∧ x.toInt ≤ 39) : (((4 : Int32) * x) + (3 : Int32)).toNatClampNeg % 4 = 3 := by
  have t0 := ti_mulc (c := 4) (y := 4) (x := x) rfl (by omega)
  have t1 := ti_addc (x := (4 : Int32) * x) (y := 3) (c := 3) rfl (by omega)
  have t2 := tn (x := (4 : Int32) * x + 3) (by omega)
  omega
theorem WT.up3 (h : WT m) {x v : Int32} (hx : 0 ≤ x.toInt ∧ x.toInt ≤ 39) : WT (uI m 194 (((4 : Int32) * x) + (3 : Int32)).toNatClampNeg v) := h.n (by show (if _ % 4 < 2 then _ else _) = _; rw [ix_p43 hx]; rfl)
theorem ix_q40 {x : Int32} (hx : 0 ≤ x.toInt ∧ x.toInt ≤ 39) : ((4 : Int32) * x).toNatClampNeg % 4 = 0 := by
  have t1 := ti_mulc (c := 4) (y := 4) (x := x) rfl (by omega)
  have t2 := tn (x := (4 : Int32) * x) (by omega)
  omega
theorem WT.q40 (h : WT m) {x : Int32} (hx : 0 ≤ x.toInt ∧ x.toInt ≤ 39) : 0 ≤ (m.1 199 ((4 : Int32) * x).toNatClampNeg).toInt ∧ (m.1 199 ((4 : Int32) * x).toNatClampNeg).toInt ≤ 7 := h.at (by show (if _ % 4 < 2 then _ else _) = _; rw [ix_q40 hx]; rfl)
theorem WT.uq0 (h : WT m) {x v : Int32} (hx : 0 ≤ x.toInt ∧ x.toInt ≤ 39) (hv : 0 ≤ v.toInt ∧ v.toInt ≤ 7) : WT (uI m 199 ((4 : Int32) * x).toNatClampNeg v) := h.t (lo := 0) (hi := 7) (by show (if _ % 4 < 2 then _ else _) = _; rw [ix_q40 hx]; rfl) hv.1 hv.2
theorem ix_q41 {x : Int32} (hx : 0 ≤ x.toInt ∧ x.toInt ≤ 39) : (((4 : Int32) * x) + (1 : Int32)).toNatClampNeg % 4 = 1 := by
  have t0 := ti_mulc (c := 4) (y := 4) (x := x) rfl (by omega)
  have t1 := ti_addc (x := (4 : Int32) * x) (y := 1) (c := 1) rfl (by omega)
  have t2 := tn (x := (4 : Int32) * x + 1) (by omega)
  omega
theorem WT.q41 (h : WT m) {x : Int32} (hx : 0 ≤ x.toInt ∧ x.toInt ≤ 39) : 0 ≤ (m.1 199 (((4 : Int32) * x) + (1 : Int32)).toNatClampNeg).toInt ∧ (m.1 199 (((4 : Int32) * x) + (1 : Int32)).toNatClampNeg).toInt ≤ 7 := h.at (by show (if _ % 4 < 2 then _ else _) = _; rw [ix_q41 hx]; rfl)
theorem WT.uq1 (h : WT m) {x v : Int32} (hx : 0 ≤ x.toInt ∧ x.toInt ≤ 39) (hv : 0 ≤ v.toInt ∧ v.toInt ≤ 7) : WT (uI m 199 (((4 : Int32) * x) + (1 : Int32)).toNatClampNeg v) := h.t (lo := 0) (hi := 7) (by show (if _ % 4 < 2 then _ else _) = _; rw [ix_q41 hx]; rfl) hv.1 hv.2
theorem ix_q42 {x : Int32} (hx : 0 ≤ x.toInt ∧ x.toInt ≤ 39) : (((4 : Int32) * x) + (2 : Int32)).toNatClampNeg % 4 = 2 := by
  have t0 := ti_mulc (c := 4) (y := 4) (x := x) rfl (by omega)
  have t1 := ti_addc (x := (4 : Int32) * x) (y := 2) (c := 2) rfl (by omega)
  have t2 := tn (x := (4 : Int32) * x + 2) (by omega)
  omega
theorem WT.uq2 (h : WT m) {x v : Int32} (hx : 0 ≤ x.toInt ∧ x.toInt ≤ 39) : WT (uI m 199 (((4 : Int32) * x) + (2 : Int32)).toNatClampNeg v) := h.n (by show (if _ % 4 < 2 then _ else _) = _; rw [ix_q42 hx]; rfl)
theorem ix_q43 {x : Int32} (hx : 0 ≤ x.toInt ∧ x.toInt ≤ 39) : (((4 : Int32) * x) + (3 : Int32)).toNatClampNeg % 4 = 3 := by
  have t0 := ti_mulc (c := 4) (y := 4) (x := x) rfl (by omega)
  have t1 := ti_addc (x := (4 : Int32) * x) (y := 3) (c := 3) rfl (by omega)
  have t2 := tn (x := (4 : Int32) * x + 3) (by omega)
  omega
theorem WT.uq3 (h : WT m) {x v : Int32} (hx : 0 ≤ x.toInt ∧ x.toInt ≤ 39) : WT (uI m 199 (((4 : Int32) * x) + (3 : Int32)).toNatClampNeg v) := h.n (by show (if _ % 4 < 2 then _ else _) = _; rw [ix_q43 hx]; rfl)
theorem ix_s30 {x : Int32} (hx : 0 ≤ x.toInt ∧ x.toInt ≤ 11) : ((3 : Int32) * x).toNatClampNeg % 3 = 0 := by
  have t1 := ti_mulc (c := 3) (y := 3) (x := x) rfl (by omega)
  have t2 := tn (x := (3 : Int32) * x) (by omega)
  omega
theorem WT.s30 (h : WT m) {x : Int32} (hx : 0 ≤ x.toInt ∧ x.toInt ≤ 11) : 0 ≤ (m.1 213 ((3 : Int32) * x).toNatClampNeg).toInt ∧ (m.1 213 ((3 : Int32) * x).toNatClampNeg).toInt ≤ 7 := h.at (by show (if _ % 3 < 2 then _ else _) = _; rw [ix_s30 hx]; rfl)
theorem WT.us0 (h : WT m) {x v : Int32} (hx : 0 ≤ x.toInt ∧ x.toInt ≤ 11) (hv : 0 ≤ v.toInt ∧ v.toInt ≤ 7) : WT (uI m 213 ((3 : Int32) * x).toNatClampNeg v) := h.t (lo := 0) (hi := 7) (by show (if _ % 3 < 2 then _ else _) = _; rw [ix_s30 hx]; rfl) hv.1 hv.2
theorem ix_s31 {x : Int32} (hx : 0 ≤ x.toInt ∧ x.toInt ≤ 11) : (((3 : Int32) * x) + (1 : Int32)).toNatClampNeg % 3 = 1 := by
  have t0 := ti_mulc (c := 3) (y := 3) (x := x) rfl (by omega)
  have t1 := ti_addc (x := (3 : Int32) * x) (y := 1) (c := 1) rfl (by omega)
  have t2 := tn (x := (3 : Int32) * x + 1) (by omega)
  omega
theorem WT.s31 (h : WT m) {x : Int32} (hx : 0 ≤ x.toInt ∧ x.toInt ≤ 11) : 0 ≤ (m.1 213 (((3 : Int32) * x) + (1 : Int32)).toNatClampNeg).toInt ∧ (m.1 213 (((3 : Int32) * x) + (1 : Int32)).toNatClampNeg).toInt ≤ 7 := h.at (by show (if _ % 3 < 2 then _ else _) = _; rw [ix_s31 hx]; rfl)
theorem WT.us1 (h : WT m) {x v : Int32} (hx : 0 ≤ x.toInt ∧ x.toInt ≤ 11) (hv : 0 ≤ v.toInt ∧ v.toInt ≤ 7) : WT (uI m 213 (((3 : Int32) * x) + (1 : Int32)).toNatClampNeg v) := h.t (lo := 0) (hi := 7) (by show (if _ % 3 < 2 then _ else _) = _; rw [ix_s31 hx]; rfl) hv.1 hv.2
theorem ix_s32 {x : Int32} (hx : 0 ≤ x.toInt ∧ x.toInt ≤ 11) : (((3 : Int32) * x) + (2 : Int32)).toNatClampNeg % 3 = 2 := by
  have t0 := ti_mulc (c := 3) (y := 3) (x := x) rfl (by omega)
  have t1 := ti_addc (x := (3 : Int32) * x) (y := 2) (c := 2) rfl (by omega)
  have t2 := tn (x := (3 : Int32) * x + 2) (by omega)
  omega
theorem WT.us2 (h : WT m) {x v : Int32} (hx : 0 ≤ x.toInt ∧ x.toInt ≤ 11) : WT (uI m 213 (((3 : Int32) * x) + (2 : Int32)).toNatClampNeg v) := h.n (by show (if _ % 3 < 2 then _ else _) = _; rw [ix_s32 hx]; rfl)
end LB
