section
/-! THE RULE'S TEXT, SIGN BY SIGN: is a thing wanted, how many digits stand, is there a comparison (this level first) -/
abbrev RuS : Type := Bool × Nat × List Bool
abbrev isDg (c : Int32) : Prop := 48 ≤ c ∧ c ≤ 57
abbrev isCm (c : Int32) : Prop := c = 60 ∨ c = 61 ∨ c = 62
abbrev isJn (c : Int32) : Prop := c = 42 ∨ c = 43 ∨ c = 45 ∨ c = 47
def rTop : List Bool → Option RuS
  | false :: r => some (true, 0, true :: r)
  | _ => none
def rPop : List Bool → Option RuS
  | _ :: g :: r => some (false, 0, g :: r)
  | _ => none
def rst (c : Int32) : RuS → Option RuS
  | (w, dg, fs) =>
    if isDg c then (if w = true then some (false, 1, fs) else if dg = 0 ∨ dg = 3 then none else some (false, dg + 1, fs))
    else if w = true then (if c = 45 then some (true, 0, fs) else if c = 40 then (if fs.length ≤ 4 then some (true, 0, false :: fs) else none) else if isLt c then some (false, 0, fs) else none)
    else if c = 41 then rPop fs
    else if isCm c then rTop fs
    else if isJn c then some (true, 0, fs)
    else none
def rok : RuS → Bool
  | (w, _, fs) => decide (w = false ∧ fs.length = 1)
section RST
variable {c : Int32} {dg : Nat} {fs r : List Bool} {f g : Bool}
theorem rst_d (h : isDg c) : rst c (true, dg, fs) = some (false, 1, fs) := by
  unfold rst; dsimp only; rw [if_pos h, if_pos rfl]
theorem rst_dn (h : isDg c) (h0 : dg = 0 ∨ dg = 3) : rst c (false, dg, fs) = none := by
  unfold rst; dsimp only; rw [if_pos h, if_neg (by decide), if_pos h0]
theorem rst_ds (h : isDg c) (h0 : ¬ (dg = 0 ∨ dg = 3)) : rst c (false, dg, fs) = some (false, dg + 1, fs) := by
  unfold rst; dsimp only; rw [if_pos h, if_neg (by decide), if_neg h0]
theorem rst_m : rst 45 (true, dg, fs) = some (true, 0, fs) := by
  unfold rst; dsimp only; rw [if_neg (by decide), if_pos rfl, if_pos rfl]
theorem rst_o (h : fs.length ≤ 4) : rst 40 (true, dg, fs) = some (true, 0, false :: fs) := by
  unfold rst; dsimp only; rw [if_neg (by decide), if_pos rfl, if_neg (by decide), if_pos rfl, if_pos h]
theorem rst_on (h : ¬ fs.length ≤ 4) : rst 40 (true, dg, fs) = none := by
  unfold rst; dsimp only; rw [if_neg (by decide), if_pos rfl, if_neg (by decide), if_pos rfl, if_neg h]
theorem isLt_ge (h : isLt c) : 97 ≤ c.toInt := by
  rcases h with h | rfl | rfl | rfl | rfl | rfl | rfl
  · exact z_le h.1
  all_goals decide
theorem rst_l (h : isLt c) : rst c (true, dg, fs) = some (false, 0, fs) := by
  have h9 := isLt_ge h
  have n1 : ¬ isDg c := fun q => by
    have q2 := z_le q.2
    have z : (57 : Int32).toInt = 57 := rfl
    omega
  have n2 : ¬ c = 45 := fun q => by rw [q] at h9; exact absurd h9 (by decide)
  have n3 : ¬ c = 40 := fun q => by rw [q] at h9; exact absurd h9 (by decide)
  unfold rst; dsimp only; rw [if_neg n1, if_pos rfl, if_neg n2, if_neg n3, if_pos h]
theorem rst_wn (h1 : ¬ isDg c) (h2 : c ≠ 45) (h3 : c ≠ 40) (h4 : ¬ isLt c) : rst c (true, dg, fs) = none := by
  unfold rst; dsimp only; rw [if_neg h1, if_pos rfl, if_neg h2, if_neg h3, if_neg h4]
theorem rst_p : rst 41 (false, dg, f :: g :: r) = some (false, 0, g :: r) := by
  unfold rst; dsimp only; rw [if_neg (by decide), if_neg (by decide), if_pos rfl]; rfl
theorem rst_p1 : rst 41 (false, dg, [f]) = none := by
  unfold rst; dsimp only; rw [if_neg (by decide), if_neg (by decide), if_pos rfl]; rfl
theorem rst_c (h : isCm c) : rst c (false, dg, false :: r) = some (true, 0, true :: r) := by
  rcases h with rfl | rfl | rfl <;> (unfold rst; dsimp only; rw [if_neg (by decide), if_neg (by decide), if_neg (by decide), if_pos (by decide)]; rfl)
theorem rst_cn (h : isCm c) : rst c (false, dg, true :: r) = none := by
  rcases h with rfl | rfl | rfl <;> (unfold rst; dsimp only; rw [if_neg (by decide), if_neg (by decide), if_neg (by decide), if_pos (by decide)]; rfl)
theorem rst_j (h : isJn c) : rst c (false, dg, fs) = some (true, 0, fs) := by
  rcases h with rfl | rfl | rfl | rfl <;> (unfold rst; dsimp only; rw [if_neg (by decide), if_neg (by decide), if_neg (by decide), if_neg (by decide), if_pos (by decide)])
theorem rst_n (h1 : ¬ isDg c) (h2 : c ≠ 41) (h3 : ¬ isCm c) (h4 : ¬ isJn c) : rst c (false, dg, fs) = none := by
  unfold rst; dsimp only; rw [if_neg h1, if_neg (by decide), if_neg h2, if_neg h3, if_neg h4]
theorem rst_no {w : Bool} {x : Int32} (hx : x.toInt < 0 ∨ 128 ≤ x.toInt) : rst x (w, dg, fs) = none := by
  have z48 : (48 : Int32).toInt = 48 := rfl
  have z57 : (57 : Int32).toInt = 57 := rfl
  have z97 : (97 : Int32).toInt = 97 := rfl
  have z100 : (100 : Int32).toInt = 100 := rfl
  have ne : ∀ t : Int32, 0 ≤ t.toInt → t.toInt ≤ 127 → ¬ x = t := fun t h0 h1 q => by rw [q] at hx; omega
  have n1 : ¬ isDg x := fun q => by have := z_le q.1; have := z_le q.2; omega
  have nl : ¬ isLt x := by
    rintro (q | q | q | q | q | q | q)
    · have := z_le q.1; have := z_le q.2; omega
    all_goals exact ne _ (by decide) (by decide) q
  cases w with
  | true => exact rst_wn n1 (ne _ (by decide) (by decide)) (ne _ (by decide) (by decide)) nl
  | false =>
    refine rst_n n1 (ne _ (by decide) (by decide)) ?_ ?_
    · rintro (q | q | q) <;> exact ne _ (by decide) (by decide) q
    · rintro (q | q | q | q) <;> exact ne _ (by decide) (by decide) q
end RST
/-! with the code (last first) and what waits (latest first) -/
def rkN (c : Int32) : Nat := if c = 42 ∨ c = 47 then 3 else if c = 43 ∨ c = 45 then 2 else if isCm c then 1 else if c = 256 then 4 else 0
abbrev XS : Type := RuS × List Int32 × List Int32
def relL (r : Nat) : List Int32 → List Int32 → List Int32 × List Int32
  | [], cd => (cd, [])
  | x :: wt, cd => if rkN x < r then (cd, x :: wt) else relL r wt ((1000 + x) :: cd)
def digL (v : Int32) : List Int32 → List Int32
  | x :: r => (x * 10 + v) :: r
  | [] => []
def xcd (c : Int32) (w : Bool) (cd wt : List Int32) : List Int32 × List Int32 :=
  if isDg c then (if w = true then ((c - 48) :: cd, wt) else (digL (c - 48) cd, wt))
  else if w = true then (if c = 45 then (cd, 256 :: wt) else if c = 40 then (cd, 40 :: wt) else ((1000 + c) :: cd, wt))
  else if c = 41 then ((relL 1 wt cd).1, (relL 1 wt cd).2.tail)
  else ((relL (rkN c) wt cd).1, c :: (relL (rkN c) wt cd).2)
def xst (c : Int32) (X : XS) : Option XS := (rst c X.1).map (fun S => (S, xcd c X.1.1 X.2.1 X.2.2))
def xok (X : XS) : Bool := rok X.1
section XST
variable {c : Int32} {dg : Nat} {fs r : List Bool} {f g w : Bool} {S S' : RuS} {cd wt : List Int32}
theorem xst_of (h : rst c S = some S') : xst c (S, cd, wt) = some (S', xcd c S.1 cd wt) := by unfold xst; dsimp only; rw [h]; rfl
theorem xst_none (h : rst c S = none) : xst c (S, cd, wt) = none := by unfold xst; dsimp only; rw [h]; rfl
theorem xst_ch {b : Int32} (X : XS) (h : CH c b) : xst c X = xst b X := by
  rcases h with ⟨-, -, rfl⟩ | ⟨a1, a2, a3⟩
  · rfl
  · obtain ⟨⟨w, dg, fs⟩, cd, wt⟩ := X
    rw [xst_none (rst_no (Or.inr a2)), xst_none (rst_no (Or.inl a1))]
theorem xs_d (h : isDg c) : xst c ((true, dg, fs), cd, wt) = some ((false, 1, fs), (c - 48) :: cd, wt) := by
  rw [xst_of (rst_d h)]; unfold xcd; rw [if_pos h, if_pos rfl]
theorem xs_ds {x : Int32} (h : isDg c) (h0 : ¬ (dg = 0 ∨ dg = 3)) : xst c ((false, dg, fs), x :: cd, wt) = some ((false, dg + 1, fs), (x * 10 + (c - 48)) :: cd, wt) := by
  rw [xst_of (rst_ds h h0)]; unfold xcd; dsimp only; rw [if_pos h, if_neg (by decide)]; rfl
theorem xs_m : xst 45 ((true, dg, fs), cd, wt) = some ((true, 0, fs), cd, 256 :: wt) := by
  rw [xst_of rst_m]; unfold xcd; rw [if_neg (by decide), if_pos rfl, if_pos rfl]
theorem xs_o (h : fs.length ≤ 4) : xst 40 ((true, dg, fs), cd, wt) = some ((true, 0, false :: fs), cd, 40 :: wt) := by
  rw [xst_of (rst_o h)]; unfold xcd; rw [if_neg (by decide), if_pos rfl, if_neg (by decide), if_pos rfl]
theorem isLt_n (h : isLt c) : ¬ isDg c ∧ ¬ c = 45 ∧ ¬ c = 40 := by
  have h9 := isLt_ge h
  refine ⟨fun q => ?_, fun q => ?_, fun q => ?_⟩
  · have q2 := z_le q.2
    have z : (57 : Int32).toInt = 57 := rfl
    omega
  · rw [q] at h9; exact absurd h9 (by decide)
  · rw [q] at h9; exact absurd h9 (by decide)
theorem xs_l (h : isLt c) : xst c ((true, dg, fs), cd, wt) = some ((false, 0, fs), (1000 + c) :: cd, wt) := by
  obtain ⟨n1, n2, n3⟩ := isLt_n h
  rw [xst_of (rst_l h)]; unfold xcd; rw [if_neg n1, if_pos rfl, if_neg n2, if_neg n3]
theorem xs_p : xst 41 ((false, dg, f :: g :: r), cd, wt) = some ((false, 0, g :: r), (relL 1 wt cd).1, (relL 1 wt cd).2.tail) := by
  rw [xst_of rst_p]; unfold xcd; dsimp only; rw [if_neg (by decide), if_neg (by decide), if_pos rfl]
theorem jn_n (h : isJn c ∨ isCm c) : ¬ isDg c ∧ ¬ c = 41 := by
  rcases h with (rfl | rfl | rfl | rfl) | (rfl | rfl | rfl) <;> decide
theorem xs_j (h : isJn c) : xst c ((false, dg, fs), cd, wt) = some ((true, 0, fs), (relL (rkN c) wt cd).1, c :: (relL (rkN c) wt cd).2) := by
  obtain ⟨n1, n2⟩ := jn_n (Or.inl h)
  rw [xst_of (rst_j h)]; unfold xcd; dsimp only; rw [if_neg n1, if_neg (by decide), if_neg n2]
theorem xs_c (h : isCm c) : xst c ((false, dg, false :: r), cd, wt) = some ((true, 0, true :: r), (relL (rkN c) wt cd).1, c :: (relL (rkN c) wt cd).2) := by
  obtain ⟨n1, n2⟩ := jn_n (Or.inr h)
  rw [xst_of (rst_c h)]; unfold xcd; dsimp only; rw [if_neg n1, if_neg (by decide), if_neg n2]
end XST
/-! what code comes to -/
def jnF (c a b : Int32) : Int32 :=
  if c = 60 then (if a < b then 1 else 0) else if c = 62 then (if b < a then 1 else 0) else if c = 61 then (if a = b then 1 else 0)
  else if c = 43 then a + b else if c = 45 then a - b else if c = 42 then a * b else if b = 0 then 0 else a / b
def bin2 (c : Int32) : List Int32 → Option (List Int32)
  | b :: a :: r => some (jnF c a b :: r)
  | _ => none
def neg1 : List Int32 → Option (List Int32)
  | a :: r => some ((-a) :: r)
  | [] => none
def evS (lt : Int32 → Int32) (x : Int32) (σ : List Int32) : Option (List Int32) :=
  if x < 1000 then some (x :: σ)
  else if rkN (x - 1000) = 0 then (if isLt (x - 1000) then some (lt (x - 1000) :: σ) else none)
  else if rkN (x - 1000) = 4 then neg1 σ
  else bin2 (x - 1000) σ
def evR (lt : Int32 → Int32) : List Int32 → List Int32 → Option (List Int32)
  | [], σ => some σ
  | x :: l, σ => match evR lt l σ with
    | none => none
    | some τ => evS lt x τ
def flL : List Int32 → List Int32 → List Int32
  | [], sg => sg
  | x :: pd, sg => flL pd ((1000 + x) :: sg)
def hLt (r : Nat) : List Int32 → Prop
  | [] => True
  | x :: _ => rkN x < r
section EVR
variable {lt : Int32 → Int32} {c : Int32}
theorem relL_fl {r : Nat} : ∀ (pd sg cd wt : List Int32), (∀ x, x ∈ pd → r ≤ rkN x) → hLt r wt → relL r (pd ++ wt) (sg ++ cd) = (flL pd sg ++ cd, wt) := by
  intro pd
  induction pd with
  | nil =>
    intro sg cd wt h hw
    cases wt with
    | nil => rfl
    | cons x wt =>
      show (if rkN x < r then (sg ++ cd, x :: wt) else relL r wt ((1000 + x) :: (sg ++ cd))) = _
      rw [if_pos (show rkN x < r from hw)]
      rfl
  | cons y pd ih =>
    intro sg cd wt h hw
    show (if rkN y < r then (sg ++ cd, y :: (pd ++ wt)) else relL r (pd ++ wt) ((1000 + y) :: (sg ++ cd))) = _
    have hy := h y (List.mem_cons.mpr (Or.inl rfl))
    rw [if_neg (by omega)]
    exact ih ((1000 + y) :: sg) cd wt (fun x hx => h x (List.mem_cons.mpr (Or.inr hx))) hw
theorem flL_app : ∀ (pd sg X : List Int32), flL pd (sg ++ X) = flL pd sg ++ X := by
  intro pd
  induction pd with
  | nil => intro sg X; rfl
  | cons y pd ih => intro sg X; exact ih ((1000 + y) :: sg) X
theorem flL_snoc : ∀ (pd sg : List Int32), flL (pd ++ [c]) sg = (1000 + c) :: flL pd sg := by
  intro pd
  induction pd with
  | nil => intro sg; rfl
  | cons y pd ih => intro sg; exact ih ((1000 + y) :: sg)
theorem evR_c {x : Int32} {l σ τ : List Int32} (h : evR lt l σ = some τ) : evR lt (x :: l) σ = evS lt x τ := by
  show (match evR lt l σ with | none => none | some τ => evS lt x τ) = _
  rw [h]
theorem evR_app {b σ τ : List Int32} (h1 : evR lt b σ = some τ) : ∀ (a υ : List Int32), evR lt a τ = some υ → evR lt (a ++ b) σ = some υ := by
  intro a
  induction a with
  | nil => intro υ h2; exact h1.trans h2
  | cons x a ih =>
    intro υ h2
    cases e : evR lt a τ with
    | none =>
      have h3 : evR lt (x :: a) τ = none := by
        show (match evR lt a τ with | none => none | some τ => evS lt x τ) = _
        rw [e]
      rw [h3] at h2
      cases h2
    | some τ' =>
      rw [evR_c e] at h2
      have h4 : evR lt (a ++ b) σ = some τ' := ih τ' e
      exact (evR_c h4).trans h2
theorem evS_n {x : Int32} {σ : List Int32} (h : x.toInt < (1000 : Int32).toInt) : evS lt x σ = some (x :: σ) := by
  unfold evS
  rw [if_pos ((fa_lt _ _).mpr h)]
theorem evS_l {σ : List Int32} (h : isLt c) : evS lt (1000 + c) σ = some (lt c :: σ) := by
  have e : (1000 : Int32) + c - 1000 = c := by rw [Int32.add_comm, Int32.add_sub_cancel]
  have hb := isLt_ge h
  have hu : c.toInt ≤ 127 := by
    rcases h with h | rfl | rfl | rfl | rfl | rfl | rfl
    · have := z_le h.2
      have z : (100 : Int32).toInt = 100 := rfl
      omega
    all_goals decide
  have ta := ti_addl (x := (1000 : Int32)) (y := c) (c := 1000) rfl (by omega)
  have n1 : ¬ (1000 : Int32) + c < 1000 := fun q => by have := y_ltr (n := 1000) rfl q; omega
  have r0 : rkN c = 0 := by
    have ne : ∀ t : Int32, t.toInt < 97 ∨ 127 < t.toInt → ¬ c = t := fun t ht q => by rw [q] at hb hu; omega
    unfold rkN
    rw [if_neg (fun q => q.elim (ne _ (by decide)) (ne _ (by decide))), if_neg (fun q => q.elim (ne _ (by decide)) (ne _ (by decide))), if_neg (fun q => q.elim (ne _ (by decide)) (fun q => q.elim (ne _ (by decide)) (ne _ (by decide)))), if_neg (ne _ (by decide))]
  unfold evS
  rw [if_neg n1, e, if_pos r0, if_pos h]
theorem evS_g {a : Int32} {σ : List Int32} : evS lt (1000 + 256) (a :: σ) = some ((-a) :: σ) := by
  unfold evS
  rw [if_neg (by decide), if_neg (by decide), if_pos (by decide)]
  rfl
theorem evS_j {a b : Int32} {σ : List Int32} (h : isJn c ∨ isCm c) : evS lt (1000 + c) (b :: a :: σ) = some (jnF c a b :: σ) := by
  rcases h with (rfl | rfl | rfl | rfl) | (rfl | rfl | rfl) <;> (unfold evS; rw [if_neg (by decide), if_neg (by decide), if_neg (by decide)]; rfl)
theorem rk_j (h : isJn c) : (c = 42 ∨ c = 47) ∧ rkN c = 3 ∨ (c = 43 ∨ c = 45) ∧ rkN c = 2 := by
  rcases h with rfl | rfl | rfl | rfl
  · exact Or.inl ⟨Or.inl rfl, by decide⟩
  · exact Or.inr ⟨Or.inl rfl, by decide⟩
  · exact Or.inr ⟨Or.inr rfl, by decide⟩
  · exact Or.inl ⟨Or.inr rfl, by decide⟩
theorem rk_c (h : isCm c) : rkN c = 1 := by rcases h with rfl | rfl | rfl <;> decide
/-- v is what was read from (cd, wt) to (cd', wt'): what still waits of it binds at least ρ -/
def rV (lt : Int32 → Int32) (v : Int32) (ρ : Nat) (cd wt cd' wt' : List Int32) : Prop := ∃ sg pd, cd' = sg ++ cd ∧ wt' = pd ++ wt ∧ (∀ x, x ∈ pd → ρ ≤ rkN x) ∧ ∀ σ, evR lt (flL pd sg) σ = some (v :: σ)
theorem rV.wk {v : Int32} {ρ ρ' : Nat} {cd wt cd' wt' : List Int32} (h : rV lt v ρ cd wt cd' wt') (hr : ρ' ≤ ρ) : rV lt v ρ' cd wt cd' wt' := by
  obtain ⟨sg, pd, h1, h2, h3, h4⟩ := h
  exact ⟨sg, pd, h1, h2, fun x hx => Nat.le_trans hr (h3 x hx), h4⟩
theorem rV.one {x v : Int32} {ρ : Nat} {cd wt : List Int32} (h : ∀ σ, evS lt x σ = some (v :: σ)) : rV lt v ρ cd wt (x :: cd) wt := ⟨[x], [], rfl, rfl, fun x hx => absurd hx (by simp), fun σ => (evR_c (l := []) rfl).trans (h σ)⟩
theorem rV.neg {v : Int32} {cd wt cd' wt' : List Int32} (h : rV lt v 4 cd (256 :: wt) cd' wt') : rV lt (-v) 4 cd wt cd' wt' := by
  obtain ⟨sg, pd, h1, h2, h3, h4⟩ := h
  refine ⟨sg, pd ++ [256], h1, by rw [h2, List.append_assoc]; rfl, fun x hx => ?_, fun σ => ?_⟩
  · rcases List.mem_append.mp hx with hx | hx
    · exact h3 x hx
    · rw [List.mem_singleton.mp hx]; decide
  · rw [flL_snoc, evR_c (h4 σ)]
    exact evS_g
theorem rV.par {v : Int32} {cd wt cd' wt' : List Int32} (h : rV lt v 1 cd (40 :: wt) cd' wt') : rV lt v 4 cd wt (relL 1 wt' cd').1 (relL 1 wt' cd').2.tail := by
  obtain ⟨sg, pd, h1, h2, h3, h4⟩ := h
  rw [h1, h2, relL_fl pd sg cd (40 :: wt) h3 (show rkN 40 < 1 by decide)]
  exact ⟨flL pd sg, [], rfl, rfl, fun x hx => absurd hx (by simp), h4⟩
theorem rV.op {a b : Int32} {ρ ρ2 : Nat} {cd wt cd1 wt1 cd2 wt2 : List Int32} (h1 : rV lt a ρ cd wt cd1 wt1) (hw : hLt ρ wt) (hj : isJn c ∨ isCm c) (hc : rkN c = ρ) (hρ : ρ ≤ ρ2)
    (h2 : rV lt b ρ2 (relL (rkN c) wt1 cd1).1 (c :: (relL (rkN c) wt1 cd1).2) cd2 wt2) : rV lt (jnF c a b) ρ cd wt cd2 wt2 := by
  obtain ⟨sg, pd, a1, a2, a3, a4⟩ := h1
  rw [hc, a1, a2, relL_fl pd sg cd wt a3 hw] at h2
  obtain ⟨sg2, pd2, b1, b2, b3, b4⟩ := h2
  refine ⟨sg2 ++ flL pd sg, pd2 ++ [c], by rw [b1, List.append_assoc], by rw [b2, List.append_assoc]; rfl, fun x hx => ?_, fun σ => ?_⟩
  · rcases List.mem_append.mp hx with hx | hx
    · exact Nat.le_trans hρ (b3 x hx)
    · rw [List.mem_singleton.mp hx, hc]; exact Nat.le_refl _
  · rw [flL_snoc, flL_app, evR_c (evR_app (a4 σ) _ _ (b4 (a :: σ)))]
    exact evS_j hj
end EVR
/-! the descent is a run of it -/
/-- R is where a part of the descent came out: a fault where the run ends, or a state of the run, and what was read -/
def rF (lt : Int32 → Int32) (tx : Nat → Int32) (e : Nat) (big : Bool) (O : Nat ⊕ XS) (cd wt : List Int32) (ρ lo : Nat) (G : List Bool → Int32 → Prop) (L : List Bool → Prop) (R : Int32 × Sp) : Prop :=
  (R.2.2 ≠ -1 → ∃ q, q ≤ e ∧ O = .inl q ∧ R.2.2 = nI q) ∧
  (R.2.2 = -1 → lo < R.2.1 ∧ R.2.1 ≤ e ∧ ∃ dg fs cd' wt', L fs ∧ rV lt R.1 ρ cd wt cd' wt' ∧ (R.2.1 < e → isDg (tx R.2.1) → dg = 0 ∨ dg = 3) ∧ (R.2.1 < e → G fs (tx R.2.1)) ∧ MO xst xok tx big (e - R.2.1) R.2.1 ((false, dg, fs), cd', wt') = O)
section RDS
variable {tx : Nat → Int32} {e : Nat} {big : Bool} {O : Nat ⊕ XS} {lo lo' ρ ρ' : Nat} {G G' : List Bool → Int32 → Prop} {L L' : List Bool → Prop} {R : Int32 × Sp} {lt : Int32 → Int32} {cd wt : List Int32}
theorem rF.flt {q : Nat} (he : e ≤ 80) (hq : q ≤ e) (hO : O = .inl q) (hs : R.2.2 = nI q) : rF lt tx e big O cd wt ρ lo G L R := ⟨fun _ => ⟨q, hq, hO, hs⟩, fun h => absurd (hs.symm.trans h) (fun z => m1_ne q (by omega) z.symm)⟩
theorem rF.wk (h : rF lt tx e big O cd wt ρ lo G L R) (hl : lo' ≤ lo) (hr : ρ' ≤ ρ) (hG : ∀ fs c, L fs → G fs c → G' fs c) (hL : ∀ fs, L fs → L' fs) : rF lt tx e big O cd wt ρ' lo' G' L' R := ⟨h.1, fun hs => by
  obtain ⟨a, b, dg, fs, cd', wt', c1, cv, c2, c3, c4⟩ := h.2 hs
  exact ⟨by omega, b, dg, fs, cd', wt', hL fs c1, cv.wk hr, c2, fun hp => hG fs _ c1 (c3 hp), c4⟩⟩
theorem num_rel : ∀ (k : Nat) (v : Int32) (p dg : Nat) (fs : List Bool), dg + k = 3 → 1 ≤ dg → p ≤ e → 0 ≤ v.toInt → ((k = 0 ∧ v.toInt ≤ 999) ∨ (k = 1 ∧ v.toInt ≤ 99) ∨ (k = 2 ∧ v.toInt ≤ 9)) → MO xst xok tx big (e - p) p ((false, dg, fs), v :: cd, wt) = O →
    p ≤ (numF tx e k v p).2 ∧ (numF tx e k v p).2 ≤ e ∧ (numF tx e k v p).1.toInt ≤ 999 ∧ ∃ dg', ((numF tx e k v p).2 < e → isDg (tx (numF tx e k v p).2) → dg' = 0 ∨ dg' = 3) ∧ MO xst xok tx big (e - (numF tx e k v p).2) (numF tx e k v p).2 ((false, dg', fs), (numF tx e k v p).1 :: cd, wt) = O := by
  intro k
  induction k with
  | zero =>
    intro v p dg fs hk h1 hp h0 hv hO
    exact ⟨Nat.le_refl _, hp, by show v.toInt ≤ 999; omega, dg, fun _ _ => Or.inr (by omega), hO⟩
  | succ k ih =>
    intro v p dg fs hk h1 hp h0 hv hO
    have e0 : numF tx e (k + 1) v p = if 48 ≤ hrF tx e p ∧ hrF tx e p ≤ 57 then numF tx e k (10 * v + hrF tx e p - 48) (p + 1) else (v, p) := rfl
    rw [e0]
    by_cases hd : 48 ≤ hrF tx e p ∧ hrF tx e p ≤ 57
    · rw [if_pos hd]
      have hlt := dig_lt hd.1
      have hd2 : isDg (tx p) := by rw [hr_in hlt] at hd; exact hd
      rw [hr_in hlt]
      have q1 := y_lel (n := 48) rfl hd2.1
      have q2 := y_ler (n := 57) rfl hd2.2
      have z48 : (48 : Int32).toInt = 48 := rfl
      have t1 := ti_mulc (y := (10 : Int32)) (x := v) (c := 10) rfl (by omega)
      have t2 := ti_add (x := (10 : Int32) * v) (y := tx p) (by omega)
      have t3 := ti_sub (x := (10 : Int32) * v + tx p) (y := (48 : Int32)) (by omega)
      have ev : v * 10 + (tx p - 48) = 10 * v + tx p - 48 := by
        have u1 := ti_sub (x := tx p) (y := (48 : Int32)) (by omega)
        have u2 := ti_mulr (y := (10 : Int32)) (x := v) (c := 10) rfl (by omega)
        have u3 := ti_add (x := v * (10 : Int32)) (y := tx p - 48) (by omega)
        exact (fa_eq _ _).mpr (by omega)
      obtain ⟨a, b, b2, c⟩ := ih (10 * v + tx p - 48) (p + 1) (dg + 1) fs (by omega) (by omega) (by omega) (by omega) (by omega) (by rw [← hO, MO_ss hlt (xs_ds hd2 (by omega)), ev])
      exact ⟨by omega, b, b2, c⟩
    · rw [if_neg hd]
      exact ⟨Nat.le_refl _, hp, by show v.toInt ≤ 999; omega, dg, fun hlt q => absurd (by rw [hr_in hlt]; exact q) hd, hO⟩
theorem loop_rel {c1 c2 : Int32} {op : Bool → Int32 → Int32 → Int32} {g : Sp → Int32 × Sp} {fs : List Bool} (h1 : isJn c1) (h2 : isJn c2) (k1 : rkN c1 = ρ) (k2 : rkN c2 = ρ) (hop : ∀ c a b, c = c1 ∨ c = c2 → op (decide (c = c1)) a b = jnF c a b) (hw : hLt ρ wt)
    (hg : ∀ p cd' wt', hLt (ρ + 1) wt' → lo < p → p ≤ e → MO xst xok tx big (e - p) p ((true, 0, fs), cd', wt') = O → rF lt tx e big O cd' wt' (ρ + 1) p G (fun r => r = fs) (g (p, -1))) :
    ∀ (k : Nat) (acc : Int32) (s : Sp), rF lt tx e big O cd wt ρ lo G (fun r => r = fs) (acc, s) → (s.2 = -1 → e - s.1 < k) → rF lt tx e big O cd wt ρ lo (fun r c => G r c ∧ c ≠ c1 ∧ c ≠ c2) (fun r => r = fs) (loopF tx e c1 c2 op g k acc s) := by
  have n1 : c1 ≠ -1 := by rcases h1 with rfl | rfl | rfl | rfl <;> decide
  have n2 : c2 ≠ -1 := by rcases h2 with rfl | rfl | rfl | rfl <;> decide
  intro k
  induction k with
  | zero =>
    intro acc s h hk
    exact ⟨h.1, fun hs => absurd (hk hs) (Nat.not_lt_zero _)⟩
  | succ k ih =>
    intro acc s h hk
    have e0 : loopF tx e c1 c2 op g (k + 1) acc s = if s.2 = -1 ∧ (hrF tx e s.1 = c1 ∨ hrF tx e s.1 = c2) then loopF tx e c1 c2 op g k (op (decide (hrF tx e s.1 = c1)) acc (g (s.1 + 1, s.2)).1) (g (s.1 + 1, s.2)).2 else (acc, s) := rfl
    rw [e0]
    by_cases hc : s.2 = -1 ∧ (hrF tx e s.1 = c1 ∨ hrF tx e s.1 = c2)
    · rw [if_pos hc]
      obtain ⟨hs, hc⟩ := hc
      have hlt : s.1 < e := by
        by_cases q : s.1 < e
        · exact q
        · rw [hr_out q] at hc
          rcases hc with z | z
          · exact absurd z.symm n1
          · exact absurd z.symm n2
      rw [hr_in hlt] at hc ⊢
      have hj : isJn (tx s.1) := by rcases hc with z | z <;> (rw [z]; assumption)
      have hk1 : rkN (tx s.1) = ρ := by rcases hc with z | z <;> (rw [z]; assumption)
      obtain ⟨a, b, dg, fs', cd1, wt1, hfs, hV, -, -, hO⟩ := h.2 hs
      have hfs' : fs' = fs := hfs
      subst hfs'
      have hO' : MO xst xok tx big (e - (s.1 + 1)) (s.1 + 1) ((true, 0, fs'), (relL (rkN (tx s.1)) wt1 cd1).1, tx s.1 :: (relL (rkN (tx s.1)) wt1 cd1).2) = O := by rw [← hO]; exact (MO_ss hlt (xs_j hj)).symm
      have r := hg (s.1 + 1) _ _ (show hLt (ρ + 1) (tx s.1 :: (relL (rkN (tx s.1)) wt1 cd1).2) from (show rkN (tx s.1) < ρ + 1 by omega)) (show lo < s.1 + 1 by have : lo < s.1 := a; omega) (by omega) hO'
      rw [hs]
      refine ih _ _ ⟨r.1, fun hs2 => ?_⟩ (fun hs2 => ?_)
      · obtain ⟨a', b', dg', fs2, cd2, wt2, c1', cv, c2', c3, c4⟩ := r.2 hs2
        have a2 : lo < s.1 := a
        have a3 : s.1 + 1 < (g (s.1 + 1, -1)).2.1 := a'
        exact ⟨show lo < (g (s.1 + 1, -1)).2.1 by omega, b', dg', fs2, cd2, wt2, c1', by rw [hop _ _ _ hc]; exact hV.op hw (Or.inl hj) hk1 (Nat.le_succ _) cv, c2', c3, c4⟩
      · have := (r.2 hs2).1
        have := hk hs
        omega
    · rw [if_neg hc]
      refine ⟨h.1, fun hs => ?_⟩
      obtain ⟨a, b, dg, fs', cd1, wt1, c1', cv, c2', c3, c4⟩ := h.2 hs
      exact ⟨a, b, dg, fs', cd1, wt1, c1', cv, c2', fun hlt => ⟨c3 hlt, fun q => hc ⟨hs, Or.inl (by rw [hr_in hlt]; exact q)⟩, fun q => hc ⟨hs, Or.inr (by rw [hr_in hlt]; exact q)⟩⟩, c4⟩
/-- what may stand behind a comparison's level -/
def gE (fs : List Bool) (c : Int32) : Prop := ¬ isJn c ∧ (isCm c → fs.head? = some true)
theorem rst_end {c : Int32} {dg : Nat} {fs : List Bool} (hd : isDg c → dg = 0 ∨ dg = 3) (hG : gE fs c) (h41 : c ≠ 41) : rst c (false, dg, fs) = none := by
  by_cases h1 : isDg c
  · exact rst_dn h1 (hd h1)
  · by_cases h3 : isCm c
    · have := hG.2 h3
      cases fs with
      | nil => cases this
      | cons f r =>
        have hf : f = true := Option.some.inj this
        rw [hf]
        exact rst_cn h3
    · exact rst_n h1 h41 h3 hG.1
theorem hLt.wk {r r' : Nat} {w : List Int32} (h : hLt r w) (hr : r ≤ r') : hLt r' w := by
  cases w with
  | nil => trivial
  | cons x w => exact Nat.lt_of_lt_of_le h hr
set_option maxHeartbeats 1000000 in
theorem des_rel (he : e ≤ 80) : ∀ n : Nat,
    (∀ dp p fs cd wt O, dp ≤ 4 → fs.length = dp + 1 → p ≤ e → 4 * (e - p) + 1 ≤ n → MO xst xok tx big (e - p) p ((true, 0, fs), cd, wt) = O → rF lt tx e big O cd wt 4 p (fun _ _ => True) (fun r => r = fs) (prF tx e lt n 0 dp (p, -1))) ∧
    (∀ dp p fs cd wt O, dp ≤ 4 → fs.length = dp + 1 → p ≤ e → 4 * (e - p) + 2 ≤ n → hLt 3 wt → MO xst xok tx big (e - p) p ((true, 0, fs), cd, wt) = O → rF lt tx e big O cd wt 3 p (fun _ c => c ≠ 42 ∧ c ≠ 47) (fun r => r = fs) (prF tx e lt n 1 dp (p, -1))) ∧
    (∀ dp p fs cd wt O, dp ≤ 4 → fs.length = dp + 1 → p ≤ e → 4 * (e - p) + 3 ≤ n → hLt 2 wt → MO xst xok tx big (e - p) p ((true, 0, fs), cd, wt) = O → rF lt tx e big O cd wt 2 p (fun _ c => ¬ isJn c) (fun r => r = fs) (prF tx e lt n 2 dp (p, -1))) ∧
    (∀ dp p r cd wt O, dp ≤ 4 → (false :: r).length = dp + 1 → p ≤ e → 4 * (e - p) + 4 ≤ n → hLt 1 wt → MO xst xok tx big (e - p) p ((true, 0, false :: r), cd, wt) = O → rF lt tx e big O cd wt 1 p gE (fun fs => ∃ f, fs = f :: r) (prF tx e lt n 3 dp (p, -1))) := by
  intro n
  induction n with
  | zero => exact ⟨fun _ _ _ _ _ _ _ _ _ h => by omega, fun _ _ _ _ _ _ _ _ _ h => by omega, fun _ _ _ _ _ _ _ _ _ h => by omega, fun _ _ _ _ _ _ _ _ _ h => by omega⟩
  | succ n ih =>
    obtain ⟨i0, i1, i2, i3⟩ := ih
    refine ⟨fun dp p fs cd wt O hdp hf hp hn hO => ?_, fun dp p fs cd wt O hdp hf hp hn hw hO => ?_, fun dp p fs cd wt O hdp hf hp hn hw hO => ?_, fun dp p r cd wt O hdp hf hp hn hw hO => ?_⟩
    · -- a thing
      have e0 : prF tx e lt (n + 1) 0 dp (p, -1) = thgF tx e lt (prF tx e lt n 0 dp) (prF tx e lt n 3 (dp + 1)) dp (p, -1) := rfl
      rw [e0]
      unfold thgF
      dsimp only
      by_cases hlt : p < e
      · rw [hr_in hlt]
        by_cases c45 : tx p = 45
        · rw [if_pos ((pass_iff (by decide)).mpr ⟨hlt, c45⟩)]
          have r := i0 dp (p + 1) fs cd (256 :: wt) O hdp hf (by omega) (by omega) (by rw [← hO]; exact (MO_ss hlt (by rw [c45]; exact xs_m)).symm)
          refine ⟨r.1, fun hs => ?_⟩
          obtain ⟨a, b, dg, fs', cd', wt', c1, cv, c2, c3, c4⟩ := r.2 hs
          exact ⟨by dsimp only at a ⊢; omega, b, dg, fs', cd', wt', c1, cv.neg, c2, c3, c4⟩
        · rw [if_neg (fun q => c45 ((pass_iff (by decide)).mp q).2), if_neg (c := ¬ ((-1 : Int32) = -1)) (fun h => h rfl)]
          by_cases c40 : tx p = 40
          · by_cases hd4 : dp < 4
            · rw [if_pos ⟨c40, hd4⟩]
              have r := i3 (dp + 1) (p + 1) fs cd (40 :: wt) O (by omega) (by rw [List.length_cons, hf]) (by omega) (by omega) (show rkN 40 < 1 by decide) (by rw [← hO]; exact (MO_ss hlt (by rw [c40]; exact xs_o (by omega))).symm)
              generalize prF tx e lt n 3 (dp + 1) (p + 1, -1) = R at r ⊢
              obtain ⟨v, p2, w⟩ := R
              by_cases hw : w = -1
              · subst hw
                obtain ⟨a, b, dg, fs', cd', wt', ⟨f, rfl⟩, cv, c2, c3, c4⟩ := r.2 rfl
                dsimp only at a b c2 c3 c4 cv
                obtain ⟨g, r', rfl⟩ : ∃ g r', fs = g :: r' := by
                  cases fs with
                  | nil => exact absurd hf (by simp)
                  | cons g r' => exact ⟨g, r', rfl⟩
                by_cases h41 : p2 < e ∧ tx p2 = 41
                · have e1 : needF tx e 41 (p2, -1) = (p2 + 1, -1) := if_pos ((pass_iff (by decide)).mpr h41)
                  dsimp only
                  rw [e1]
                  exact ⟨fun h => absurd rfl h, fun _ => ⟨by dsimp only; omega, by dsimp only; omega, 0, g :: r', _, _, rfl, cv.par, fun _ _ => Or.inl rfl, fun _ => trivial, by rw [← c4]; exact (MO_ss h41.1 (by rw [h41.2]; exact xs_p)).symm⟩⟩
                · have e1 : needF tx e 41 (p2, -1) = (p2, nI p2) := by
                    have h0 : ¬ passF tx e 41 (p2, -1) = true := fun q => h41 ((pass_iff (by decide)).mp q)
                    unfold needF fltF
                    rw [if_neg h0, if_pos rfl]
                  dsimp only
                  rw [e1]
                  refine rF.flt he b ?_ rfl
                  rw [← c4]
                  refine MO_ff (fun q => xst_none (rst_end (c2 q) (c3 q) (fun z => h41 ⟨q, z⟩))) (fun _ => ?_)
                  exact decide_eq_false (p := false = false ∧ (f :: g :: r').length = 1) (fun q => by have := q.2; simp at this)
              · obtain ⟨q, hq, hO', hw'⟩ := r.1 hw
                have e1 : needF tx e 41 (p2, w) = (p2, w) := by
                  have h0 : ¬ passF tx e 41 (p2, w) = true := pass_d hw
                  unfold needF fltF
                  rw [if_neg h0, if_neg hw]
                dsimp only
                rw [e1]
                exact rF.flt he hq hO' hw'
            · rw [if_neg (fun q => hd4 q.2), if_neg (by rw [c40]; decide), if_neg (by rw [c40]; decide)]
              refine rF.flt he hp ?_ (show (fltF (nI p) (p, -1)).2 = nI p from congrArg Prod.snd (if_pos rfl))
              rw [← hO]
              refine MO_ff (fun _ => by rw [c40]; exact xst_none (rst_on (by omega))) (fun _ => rfl)
          · rw [if_neg (fun q => c40 q.1)]
            by_cases hd : isDg (tx p)
            · rw [if_pos hd]
              have e1 : numF tx e 3 0 p = numF tx e 2 (10 * 0 + hrF tx e p - 48) (p + 1) := by
                show (if 48 ≤ hrF tx e p ∧ hrF tx e p ≤ 57 then numF tx e 2 (10 * 0 + hrF tx e p - 48) (p + 1) else (0, p)) = _
                rw [if_pos (by rw [hr_in hlt]; exact hd)]
              rw [e1, hr_in hlt]
              have q1 := y_lel (n := 48) rfl hd.1
              have q2 := y_ler (n := 57) rfl hd.2
              have z48 : (48 : Int32).toInt = 48 := rfl
              have t1 := ti_sub (x := tx p) (y := (48 : Int32)) (by omega)
              have ev : 10 * 0 + tx p - 48 = tx p - 48 := by
                have t2 := ti_addl (x := (10 : Int32) * 0) (y := tx p) (c := 0) rfl (by omega)
                have t3 := ti_sub (x := (10 : Int32) * 0 + tx p) (y := (48 : Int32)) (by omega)
                exact (fa_eq _ _).mpr (by omega)
              rw [ev]
              obtain ⟨a, b, b2, dg, c, c4⟩ := num_rel (tx := tx) (e := e) (big := big) (O := O) (cd := cd) (wt := wt) 2 (tx p - 48) (p + 1) 1 fs (by decide) (by decide) (by omega) (by omega) (by omega) (by rw [← hO]; exact (MO_ss hlt (xs_d hd)).symm)
              exact ⟨fun h => absurd rfl h, fun _ => ⟨by dsimp only; omega, b, dg, fs, _, _, rfl, rV.one (fun σ => evS_n (by have z : (1000 : Int32).toInt = 1000 := rfl; dsimp only; omega)), c, fun _ => trivial, c4⟩⟩
            · rw [if_neg hd]
              by_cases hl : isLt (tx p)
              · rw [if_pos hl]
                exact ⟨fun h => absurd rfl h, fun _ => ⟨by dsimp only; omega, by dsimp only; omega, 0, fs, _, _, rfl, rV.one (fun σ => evS_l hl), fun _ _ => Or.inl rfl, fun _ => trivial, by rw [← hO]; exact (MO_ss hlt (xs_l hl)).symm⟩⟩
              · rw [if_neg hl]
                refine rF.flt he hp ?_ (show (fltF (nI p) (p, -1)).2 = nI p from congrArg Prod.snd (if_pos rfl))
                rw [← hO]
                exact MO_ff (fun _ => xst_none (rst_wn hd c45 c40 hl)) (fun _ => rfl)
      · rw [hr_out hlt, if_neg (fun q => hlt ((pass_iff (by decide)).mp q).1), if_neg (c := ¬ ((-1 : Int32) = -1)) (fun h => h rfl), if_neg (fun q => absurd q.1 (by decide)), if_neg (by decide), if_neg (by decide)]
        refine rF.flt he hp ?_ (show (fltF (nI p) (p, -1)).2 = nI p from congrArg Prod.snd (if_pos rfl))
        rw [← hO]
        exact MO_ff (fun q => absurd q hlt) (fun _ => rfl)
    · -- a product
      have e0 : prF tx e lt (n + 1) 1 dp (p, -1) = loopF tx e 42 47 opM (prF tx e lt n 0 dp) 81 (prF tx e lt n 0 dp (p, -1)).1 (prF tx e lt n 0 dp (p, -1)).2 := rfl
      rw [e0]
      have r := i0 dp p fs cd wt O hdp hf hp (by omega) hO
      refine (loop_rel (ρ := 3) (Or.inl rfl) (Or.inr (Or.inr (Or.inr rfl))) (by decide) (by decide) (fun c a b h => ?_) hw (fun q cd' wt' _ h1 h2 hO2 => i0 dp q fs cd' wt' O hdp hf h2 (by omega) hO2) 81 _ _ (r.wk (Nat.le_refl _) (by decide) (fun _ _ _ h => h) (fun _ h => h)) (fun hs => by have := (r.2 hs).1; omega)).wk (Nat.le_refl _) (Nat.le_refl _) (fun _ _ _ h => h.2) (fun _ h => h)
      rcases h with rfl | rfl
      · rfl
      · rfl
    · -- a sum
      have e0 : prF tx e lt (n + 1) 2 dp (p, -1) = loopF tx e 43 45 opA (prF tx e lt n 1 dp) 81 (prF tx e lt n 1 dp (p, -1)).1 (prF tx e lt n 1 dp (p, -1)).2 := rfl
      rw [e0]
      have r := i1 dp p fs cd wt O hdp hf hp (by omega) (hw.wk (by decide)) hO
      refine (loop_rel (ρ := 2) (Or.inr (Or.inl rfl)) (Or.inr (Or.inr (Or.inl rfl))) (by decide) (by decide) (fun c a b h => ?_) hw (fun q cd' wt' hw' h1 h2 hO2 => i1 dp q fs cd' wt' O hdp hf h2 (by omega) hw' hO2) 81 _ _ (r.wk (Nat.le_refl _) (by decide) (fun _ _ _ h => h) (fun _ h => h)) (fun hs => by have := (r.2 hs).1; omega)).wk (Nat.le_refl _) (Nat.le_refl _) (fun _ c _ h => ?_) (fun _ h => h)
      · rcases h with rfl | rfl
        · rfl
        · rfl
      · obtain ⟨⟨h42, h47⟩, h43, h45⟩ := h
        rintro (q | q | q | q)
        · exact h42 q
        · exact h43 q
        · exact h45 q
        · exact h47 q
    · -- what is compared
      have e0 : prF tx e lt (n + 1) 3 dp (p, -1) = cmpF tx e (prF tx e lt n 2 dp) (prF tx e lt n 2 dp (p, -1)) := rfl
      rw [e0]
      have r1 := i2 dp p (false :: r) cd wt O hdp hf hp (by omega) (hw.wk (by decide)) hO
      generalize prF tx e lt n 2 dp (p, -1) = R at r1 ⊢
      obtain ⟨v, p2, w⟩ := R
      by_cases hm : w = -1
      · subst hm
        obtain ⟨a, b, dg, fs', cd1, wt1, hfs, cv, c2, c3, c4⟩ := r1.2 rfl
        have hfs' : fs' = false :: r := hfs
        subst hfs'
        dsimp only at a b c2 c3 c4 cv
        have go : ∀ c : Int32, isCm c → p2 < e → tx p2 = c → ∀ R2, R2 = (jnF c v (prF tx e lt n 2 dp (p2 + 1, -1)).1, (prF tx e lt n 2 dp (p2 + 1, -1)).2) → rF lt tx e big O cd wt 1 p gE (fun fs => ∃ f, fs = f :: r) R2 := by
          rintro c hc hlt htx R2 rfl
          have r2 := i2 dp (p2 + 1) (true :: r) _ _ O hdp hf (by omega) (by omega) (show hLt 2 (c :: (relL (rkN c) wt1 cd1).2) from show rkN c < 2 by rw [rk_c hc]; decide) (by rw [← c4]; exact (MO_ss hlt (by rw [htx]; exact xs_c hc)).symm)
          refine ⟨r2.1, fun hs => ?_⟩
          obtain ⟨a', b', dg', fs2, cd2, wt2, hf2, cv2, d2, d3, d4⟩ := r2.2 hs
          refine ⟨by dsimp only; omega, b', dg', fs2, cd2, wt2, ⟨true, hf2⟩, (cv.wk (by decide)).op hw (Or.inr hc) (rk_c hc) (by decide) cv2, d2, fun hp2 => ⟨d3 hp2, fun _ => by rw [show fs2 = true :: r from hf2]; rfl⟩, d4⟩
        unfold cmpF
        dsimp only
        by_cases h1 : passF tx e 60 (p2, -1) = true
        · rw [if_pos h1]
          obtain ⟨q1, q2⟩ := (pass_iff (by decide)).mp h1
          exact go 60 (Or.inl rfl) q1 q2 _ rfl
        · rw [if_neg h1]
          by_cases h2 : passF tx e 62 (p2, -1) = true
          · rw [if_pos h2]
            obtain ⟨q1, q2⟩ := (pass_iff (by decide)).mp h2
            exact go 62 (Or.inr (Or.inr rfl)) q1 q2 _ rfl
          · rw [if_neg h2]
            by_cases h3 : passF tx e 61 (p2, -1) = true
            · rw [if_pos h3]
              obtain ⟨q1, q2⟩ := (pass_iff (by decide)).mp h3
              exact go 61 (Or.inr (Or.inl rfl)) q1 q2 _ rfl
            · rw [if_neg h3]
              refine ⟨fun h => absurd rfl h, fun _ => ⟨a, b, dg, false :: r, cd1, wt1, ⟨false, rfl⟩, cv.wk (by decide), c2, fun q => ⟨c3 q, fun z => ?_⟩, c4⟩⟩
              rcases z with z | z | z
              · exact absurd ((pass_iff (by decide)).mpr ⟨q, z⟩) h1
              · exact absurd ((pass_iff (by decide)).mpr ⟨q, z⟩) h3
              · exact absurd ((pass_iff (by decide)).mpr ⟨q, z⟩) h2
      · obtain ⟨q, hq, hO', hw'⟩ := r1.1 hm
        unfold cmpF
        dsimp only
        rw [if_neg (pass_d hm), if_neg (pass_d hm), if_neg (pass_d hm)]
        exact rF.flt he hq hO' hw'
end RDS
end
section
/-! THE RULE: whether the model takes it -/
section RUE
variable {ad : Nat → Nat} {d : Nat} {m : Wm}
def ruM (m : Wm) (t : Nat) (X : Sp) (r : Option Value) (m' : Wm) : Prop := WT m' ∧ Fx (RS [20, 21, 22, 48, 28]) m m' ∧ (m'.1 187 14).toInt = 0 ∧
  (t ≠ 0 → X.2 ≠ -1 → r = some (.int (-1 - X.2)) ∧ Fx (RS [20, 21, 22, 28]) m m') ∧ (t ≠ 0 → X.2 = -1 → X.1 < t → r = some (.int (-1 - nI X.1)) ∧ Fx (RS [20, 21, 22, 28]) m m') ∧ ((t = 0 ∨ (X.2 = -1 ∧ ¬ X.1 < t)) → r = some (.int 0) ∧ m'.1 187 27 = nI t ∧ ∀ k, k < t → m'.1 200 k = vp_nar .byte (m.1 195 k))
theorem e_ruleM {t : Nat} (w : WT m) (ht : m.1 187 14 = nI t) (ht80 : t ≤ 80) : Ct ad μX12_rule (d + 168) [.ref (ad 187)] m (ruM m t (prF (m.1 195) (minT t 40) (fun _ => 0) 164 3 0 (0, -1)).2) := by
  have w0 : WT (uI m 187 17 0) := w.n rfl
  have A := pa_text (n := t) (t := 40) (by omega) (by decide)
  have he40 : minT t 40 ≤ 40 := by unfold minT; split <;> omega
  refine v_X12_rule (d := d + 167) ((begin_ok (na := 80) rfl).to ?_)
  rintro _ m1 ⟨rfl, e1⟩
  have ety' : (uI m 187 17 0).1 187 14 = nI t := ht
  rw [ety'] at e1 ⊢
  have e1' : m1 = bgM (uI m 187 17 0) 195 (nI t) (nI 40) := e1
  subst e1'
  clear e1
  have f1 : Fx (RS [22]) (uI m 187 17 0) (bgM (uI m 187 17 0) 195 (nI t) (nI 40)) := bg_fx
  have P1 : PS 195 t 40 (minT t 40) ((uI m 187 17 0).1 195) 0 (-1) (bgM (uI m 187 17 0) 195 (nI t) (nI 40)) := bg_ps (by omega) (by decide)
  have w1 := w0.fx f1
  generalize bgM (uI m 187 17 0) 195 (nI t) (nI 40) = mb at f1 P1 w1 ⊢
  have w2 : WT (uI (uI mb 187 14 0) 187 28 (-1)) := (w1.t rfl (by decide) (by decide)).t rfl (by decide) (by decide)
  have P2 : PS 195 t 40 (minT t 40) (m.1 195) 0 (-1) (uI (uI mb 187 14 0) 187 28 (-1)) := by
    obtain ⟨b1, b2, b3, b4, b5, b6, b7⟩ := P1
    exact ⟨b1, b2, b3, b4, b5, b6, fun k hk => b7 k hk⟩
  have F2 : Fx (RS [20, 21, 22, 28]) m (uI (uI mb 187 14 0) 187 28 (-1)) := ((((Fx.rf (S := RS [20, 21, 22, 28]) (m := m)).i (a := 187) (k := 17) (v := 0) rfl).tr f1 (RS_sub rfl)).i rfl).i rfl
  have z14 : ((uI (uI mb 187 14 0) 187 28 (-1)).1 187 14).toInt = 0 := rfl
  have En : EN ad (fun _ => 0) (uI (uI mb 187 14 0) 187 28 (-1)) := Or.inl ⟨rfl, fun _ => rfl⟩
  generalize uI (uI mb 187 14 0) 187 28 (-1) = mc at w2 P2 F2 z14 En ⊢
  have cp : ∀ X : Sp, (t = 0 ∨ (X.2 = -1 ∧ ¬ X.1 < t)) → t ≤ 40 → ∀ (j x2 : Nat) (m3 : Wm), x2 + j = t → WT m3 → Fx (RS [20, 21, 22, 48, 28]) m m3 → (m3.1 187 14).toInt = 0 → (∀ k, k < t → m3.1 195 k = m.1 195 k) → (∀ k, k < x2 → m3.1 200 k = vp_nar .byte (m.1 195 k)) → AW ad E0 μX12_rule (d + 167 + 1) (ruM m t X) 73 [(0, .ref (ad 187)), (1, .int (nI t)), (2, .int (nI x2))] [] m3 := by
    intro X hX h40 j
    have tt : (nI t).toInt = (t : Int) := nI_toInt (by omega)
    induction j with
    | zero =>
      intro x2 m3 hx wt3 f3 h14 h195 h200
      refine g_X12_rule_73 ⟨fun _ => ⟨wt3.t rfl (by omega) (by omega), f3.i rfl, h14, fun h0 h1 => ?_, fun h0 h1 h2 => ?_, fun _ => ⟨rfl, rfl, fun k hk => h200 k (by omega)⟩⟩, fun c => absurd ((nI_leI (by omega) (by omega)).mpr (by omega)) c⟩
      · exact (hX.elim (fun q => h0 q) (fun q => h1 q.1)).elim
      · exact (hX.elim (fun q => h0 q) (fun q => q.2 h2)).elim
    | succ j ih =>
      intro x2 m3 hx wt3 f3 h14 h195 h200
      refine g_X12_rule_73 ⟨fun c => absurd ((nI_leI (by omega) (by omega)).mp c) (by omega), fun _ => ⟨nat_in (by omega) (by decide), nat_in (by omega) (by decide), ?_⟩⟩
      rw [nI_1, nI_clamp (by omega)]
      refine ih (x2 + 1) _ (by omega) (wt3.n rfl) (f3.i rfl) h14 (fun k hk => h195 k hk) (fun k hk => ?_)
      by_cases hk2 : k = x2
      · rw [hk2]
        exact u_eq.trans (congrArg (vp_nar .byte) (h195 x2 (by omega)))
      · exact (u_ne (fun q => hk2 q.2)).trans (h200 k (by omega))
  refine ⟨rfl, fun c => ?_, fun c => ?_⟩
  · have h0 : t = 0 := by
      have := (nI_leI (a := t) (b := 0) (by omega) (by omega)).mp c
      omega
    subst h0
    exact cp _ (Or.inl rfl) (by decide) 0 0 mc rfl w2 (Fx.tr Fx.rf F2 (RS_sub rfl)) z14 (fun k hk => absurd hk (Nat.not_lt_zero k)) (fun k hk => absurd hk (Nat.not_lt_zero k))
  · have h0 : t ≠ 0 := fun q => by
      subst q
      exact c ((nI_leI (a := 0) (b := 0) (by omega) (by omega)).mpr (Nat.le_refl _))
    refine ((rul_ok (d := d) A 164).2.2.2 0 (by decide) 0 (-1) mc P2 En (by omega)).to ?_
    rintro _ m2 ⟨rfl, h2, -, f2⟩
    have F3 := F2.tr f2 (RS_sub rfl)
    have wt2 := w2.fx f2
    generalize prF (m.1 195) (minT t 40) (fun _ => 0) 164 3 0 (0, -1) = R at h2 ⊢
    obtain ⟨v, q, u⟩ := R
    dsimp only at h2 ⊢
    have hqe : q ≤ minT t 40 := h2.2.2.2.2.2.1
    have e57 : ∀ (m3 : Wm) (w3 : Int32), PS 195 t 40 (minT t 40) (m.1 195) q w3 m3 → Fx (RS [22]) m2 m3 → (w3 = -1 → u = -1 ∧ t ≤ q) → (w3 ≠ -1 → (u ≠ -1 ∧ w3 = u) ∨ (u = -1 ∧ q < t ∧ w3 = nI q)) → AW ad E0 μX12_rule (d + 167 + 1) (ruM m t (q, u)) 57 [(0, .ref (ad 187)), (1, .int (nI t))] [] m3 := by
      intro m3 w3 h3 f3 hw hn
      have F4 := F3.tr f3 (RS_sub rfl)
      have wt3 := wt2.fx f3
      have e14 : (m3.1 187 14).toInt = 0 := by rw [f3.at (a := 187) (k := 14) (by decide), f2.at (a := 187) (k := 14) (by decide)]; exact z14
      refine g_X12_rule_57 ((fine_ok h3).to ?_)
      rintro _ m' ⟨eq, rfl⟩
      obtain rfl := eq.symm
      by_cases hq : w3 = -1
      · obtain ⟨hu, htq⟩ := hw hq
        exact ⟨1, by rw [if_pos hq], fun _ => cp (q, u) (Or.inr ⟨hu, by dsimp only; omega⟩) (by omega) t 0 m3 (by omega) wt3 (Fx.tr Fx.rf F4 (RS_sub rfl)) e14 (fun k hk => h3.2.2.2.2.2.2 k (by have hmt : minT t 40 = t := (by unfold minT; split <;> omega); omega)) (fun k hk => absurd hk (Nat.not_lt_zero k)), fun c => absurd c (by decide)⟩
      · have h22 : m3.1 187 22 = w3 := h3.2.2.2.2.1
        refine ⟨0, by rw [if_neg hq], fun c => absurd rfl c, fun _ => ⟨wt3, Fx.tr Fx.rf F4 (RS_sub rfl), e14, fun _ hu => ⟨?_, F4⟩, fun _ hu hlt => ⟨?_, F4⟩, fun hh => ?_⟩⟩
        · rcases hn hq with ⟨-, e⟩ | ⟨hu2, -⟩
          · rw [h22, e]
          · exact absurd hu2 hu
        · rcases hn hq with ⟨hu2, -⟩ | ⟨-, -, e⟩
          · exact absurd hu hu2
          · rw [h22, e]
        · rcases hh with hh | ⟨hu, hge⟩
          · exact absurd hh h0
          · rcases hn hq with ⟨hu2, -⟩ | ⟨-, hlt, -⟩
            · exact absurd hu hu2
            · exact absurd hlt hge
    have h21 : m2.1 187 21 = nI q := h2.2.2.2.1
    refine ⟨v, rfl, fun c => ?_, fun c => ?_⟩
    · rw [h21] at c
      have hle := (nI_leI (a := t) (b := q) (by omega) (by omega)).mp c
      exact e57 m2 u h2 Fx.rf (fun hu => ⟨hu, hle⟩) (fun hu => Or.inl ⟨hu, rfl⟩)
    · rw [h21] at c ⊢
      have hlt : q < t := Nat.lt_of_not_le (fun z => c ((nI_leI (by omega) (by omega)).mpr z))
      refine (fault_ok A h2).to ?_
      rintro _ m3 ⟨rfl, h3, f3⟩
      refine ⟨rfl, e57 m3 _ h3 f3 (fun z => (flt_2 (p := _) (w := u) z (by omega)).elim) (fun _ => ?_)⟩
      by_cases hu : u = -1
      · exact Or.inr ⟨hu, hlt, congrArg Prod.snd (if_pos hu)⟩
      · exact Or.inl ⟨hu, congrArg Prod.snd (if_neg hu)⟩
end RUE
end
section
/-! THE RULE: the class takes it sign by sign; what its cells hold -/
def fAt : List Bool → Nat → Bool
  | [], _ => false
  | f :: _, 0 => f
  | _ :: r, k + 1 => fAt r k
def cAt : List Int32 → Nat → Int32
  | [], _ => 0
  | x :: _, 0 => x
  | _ :: r, k + 1 => cAt r k
/-- row a holds the list, its last first -/
def LCel (m : Wm) (a : Nat) (l : List Int32) : Prop := ∀ i, i < l.length → m.1 a i = cAt l (l.length - 1 - i)
/-- what emit, hold and release touch -/
def RK (b0 b k : Nat) : Prop := (b = b0 ∧ (k = 4 ∨ k = 5)) ∨ b = b0 + 1 ∨ b = b0 + 3
/-- of the rule b0 alone -/
def RB (b0 a k : Nat) : Prop := (a = b0 ∧ 4 ≤ k ∧ k ≤ 8) ∨ a = b0 + 1 ∨ a = b0 + 3 ∨ a = b0 + 4
def XC (b0 : Nat) (cd wt : List Int32) (m : Wm) : Prop := m.1 b0 4 = nI cd.length ∧ LCel m (b0 + 1) cd ∧ m.1 b0 5 = nI wt.length ∧ LCel m (b0 + 3) wt
def RX (b0 : Nat) : XS → Wm → Prop
  | ((w, dg, fs), cd, wt), m => m.1 b0 8 = (if w = true then 1 else 0) ∧ m.1 b0 7 = nI dg ∧ dg ≤ 3 ∧ (w = false → cd ≠ []) ∧ XC b0 cd wt m ∧ ∃ D, fs.length = D + 1 ∧ D ≤ 4 ∧ m.1 b0 6 = nI D ∧ ∀ i, i ≤ D → m.1 (b0 + 4) i = if fAt fs (D - i) = true then 1 else 0
def RXQ (m0 : Wm) (b0 : Nat) (c : Int32) (X : XS) (r : Option Value) (m' : Wm) : Prop := WT m' ∧ Fx (RB b0) m0 m' ∧ ((r = some (.int 1) ∧ ∃ X', xst c X = some X' ∧ RX b0 X' m') ∨ (r = some (.int 0) ∧ xst c X = none))
theorem relL_len {r : Nat} : ∀ (wt cd : List Int32), (relL r wt cd).1.length + (relL r wt cd).2.length = cd.length + wt.length := by
  intro wt
  induction wt with
  | nil => intro cd; rfl
  | cons x wt ih =>
    intro cd
    show (if rkN x < r then (cd, x :: wt) else relL r wt ((1000 + x) :: cd)).1.length + (if rkN x < r then (cd, x :: wt) else relL r wt ((1000 + x) :: cd)).2.length = _
    by_cases h : rkN x < r
    · rw [if_pos h]
    · rw [if_neg h, ih, List.length_cons, List.length_cons]; omega
theorem relL_ne {r : Nat} : ∀ (wt cd : List Int32), cd ≠ [] → (relL r wt cd).1 ≠ [] := by
  intro wt
  induction wt with
  | nil => intro cd h; exact h
  | cons x wt ih =>
    intro cd h
    show (if rkN x < r then (cd, x :: wt) else relL r wt ((1000 + x) :: cd)).1 ≠ []
    by_cases h2 : rkN x < r
    · rw [if_pos h2]; exact h
    · rw [if_neg h2]; exact ih _ (by simp)
theorem xcd_len {c : Int32} {w : Bool} {cd wt : List Int32} : (xcd c w cd wt).1.length + (xcd c w cd wt).2.length ≤ cd.length + wt.length + 1 := by
  have h1 := relL_len (r := 1) wt cd
  have h2 := relL_len (r := rkN c) wt cd
  have h3 : (digL (c - 48) cd).length = cd.length := by cases cd <;> rfl
  have h4 : (relL 1 wt cd).2.tail.length ≤ (relL 1 wt cd).2.length := by
    generalize (relL 1 wt cd).2 = l
    cases l with
    | nil => exact Nat.le_refl _
    | cons x l => show l.length ≤ (x :: l).length; rw [List.length_cons]; omega
  unfold xcd
  by_cases a1 : isDg c
  · rw [if_pos a1]
    by_cases a2 : w = true
    · rw [if_pos a2]; show ((c - 48) :: cd).length + wt.length ≤ _; rw [List.length_cons]; omega
    · rw [if_neg a2]; show (digL (c - 48) cd).length + wt.length ≤ _; omega
  · rw [if_neg a1]
    by_cases a2 : w = true
    · rw [if_pos a2]
      by_cases a3 : c = 45
      · rw [if_pos a3]; show cd.length + ((256 : Int32) :: wt).length ≤ _; rw [List.length_cons]; omega
      · rw [if_neg a3]
        by_cases a4 : c = 40
        · rw [if_pos a4]; show cd.length + ((40 : Int32) :: wt).length ≤ _; rw [List.length_cons]; omega
        · rw [if_neg a4]; show ((1000 + c) :: cd).length + wt.length ≤ _; rw [List.length_cons]; omega
    · rw [if_neg a2]
      by_cases a3 : c = 41
      · rw [if_pos a3]; show (relL 1 wt cd).1.length + (relL 1 wt cd).2.tail.length ≤ _; omega
      · rw [if_neg a3]; show (relL (rkN c) wt cd).1.length + (c :: (relL (rkN c) wt cd).2).length ≤ _; rw [List.length_cons]; omega
theorem xst_len {c : Int32} {X X' : XS} (h : xst c X = some X') : X'.2.1.length + X'.2.2.length ≤ X.2.1.length + X.2.2.length + 1 := by
  unfold xst at h
  cases e : rst c X.1 with
  | none => rw [e] at h; cases h
  | some S =>
    rw [e] at h
    have h' : (S, xcd c X.1.1 X.2.1 X.2.2) = X' := Option.some.inj h
    rw [← h']
    exact xcd_len
section RCC
variable {ad : Nat → Nat} {d b0 : Nat} {m m0 : Wm} {cd wt : List Int32}
theorem LCel.c {a : Nat} {x : Int32} {l : List Int32} (h : LCel m a l) : LCel (uI m a l.length x) a (x :: l) := fun i hi => by
  rw [List.length_cons] at hi ⊢
  by_cases e : i = l.length
  · rw [e, show l.length + 1 - 1 - l.length = 0 by omega]
    exact u_eq
  · rw [show l.length + 1 - 1 - i = (l.length - 1 - i) + 1 by omega]
    exact (u_ne (fun q => e q.2)).trans (h i (by omega))
theorem LCel.t {a : Nat} {x : Int32} {l : List Int32} (h : LCel m a (x :: l)) : LCel m a l := fun i hi => by
  have h1 := h i (by rw [List.length_cons]; omega)
  rw [List.length_cons, show l.length + 1 - 1 - i = (l.length - 1 - i) + 1 by omega] at h1
  exact h1
theorem LCel.h {a : Nat} {x : Int32} {l : List Int32} (h : LCel m a (x :: l)) : m.1 a l.length = x := by
  have h1 := h l.length (by rw [List.length_cons]; omega)
  rw [List.length_cons, show l.length + 1 - 1 - l.length = 0 by omega] at h1
  exact h1
theorem LCel.k {a : Nat} {l : List Int32} {m' : Wm} (h : LCel m a l) (e : ∀ k, m'.1 a k = m.1 a k) : LCel m' a l := fun i hi => (e i).trans (h i hi)
theorem XC.k {m' : Wm} (h : XC b0 cd wt m) (e : ∀ a k, RK b0 a k → m'.1 a k = m.1 a k) : XC b0 cd wt m' := by
  obtain ⟨h1, h2, h3, h4⟩ := h
  exact ⟨(e b0 4 (Or.inl ⟨rfl, Or.inl rfl⟩)).trans h1, h2.k (fun k => e _ k (Or.inr (Or.inl rfl))), (e b0 5 (Or.inl ⟨rfl, Or.inr rfl⟩)).trans h3, h4.k (fun k => e _ k (Or.inr (Or.inr rfl)))⟩
theorem cnt4 (hb : b0 = 5 ∨ b0 = 10) (w : WT m) : 0 ≤ (m.1 b0 4).toInt ∧ (m.1 b0 4).toInt ≤ 40 := by
  rcases hb with rfl | rfl
  · exact w.at (a := 5) (k := 4) rfl
  · exact w.at (a := 10) (k := 4) rfl
theorem cnt5 (hb : b0 = 5 ∨ b0 = 10) (w : WT m) : 0 ≤ (m.1 b0 5).toInt ∧ (m.1 b0 5).toInt ≤ 40 := by
  rcases hb with rfl | rfl
  · exact w.at (a := 5) (k := 5) rfl
  · exact w.at (a := 10) (k := 5) rfl
theorem wR1 (hb : b0 = 5 ∨ b0 = 10) (w : WT m) {k : Nat} {v : Int32} : WT (uI m (b0 + 1) k v) := by rcases hb with rfl | rfl; exact w.n rfl; exact w.n rfl
theorem wR3 (hb : b0 = 5 ∨ b0 = 10) (w : WT m) {k : Nat} {v : Int32} : WT (uI m (b0 + 3) k v) := by rcases hb with rfl | rfl; exact w.n rfl; exact w.n rfl
theorem wR_4 (hb : b0 = 5 ∨ b0 = 10) (w : WT m) {v : Int32} (h0 : 0 ≤ v.toInt) (h1 : v.toInt ≤ 40) : WT (uI m b0 4 v) := by rcases hb with rfl | rfl; exact w.t rfl h0 h1; exact w.t rfl h0 h1
theorem wR_5 (hb : b0 = 5 ∨ b0 = 10) (w : WT m) {v : Int32} (h0 : 0 ≤ v.toInt) (h1 : v.toInt ≤ 40) : WT (uI m b0 5 v) := by rcases hb with rfl | rfl; exact w.t rfl h0 h1; exact w.t rfl h0 h1
theorem e_emitK (hb : b0 = 5 ∨ b0 = 10) (w : WT m) (f : Fx (RK b0) m0 m) (C : XC b0 cd wt m) (hl : cd.length < 40) {x : Int32} : Ct ad μX5_emit d [.ref (ad b0), .int x] m (fun r m' => r = none ∧ WT m' ∧ Fx (RK b0) m0 m' ∧ XC b0 (x :: cd) wt m') := by
  obtain ⟨h1, h2, h3, h4⟩ := C
  have tl : (nI cd.length).toInt = cd.length := nI_toInt (by omega)

  refine v_X5_emit (Ru_of hb) ⟨fun c => ?_, fun c => ?_⟩
  · rw [h1] at c; have := y_lel (n := 40) rfl c; omega
  · have e : (uI m (b0 + 1) (m.1 b0 4).toNatClampNeg x).1 b0 4 = m.1 b0 4 := u_ne (by omega)
    rw [e, h1, nI_1, nI_clamp (by omega)]
    refine ⟨nat_in (by omega) (by decide), rfl, wR_4 hb (wR1 hb w) ?_ ?_, (f.i (Or.inr (Or.inl rfl))).i (Or.inl ⟨rfl, Or.inl rfl⟩), ?_, ?_, ?_, ?_⟩
    · rw [nI_toInt (by omega)]; omega
    · rw [nI_toInt (by omega)]; omega
    · rw [List.length_cons]; exact u_eq
    · exact (LCel.c (x := x) h2).k (fun k => u_ne (by omega))
    · exact (u_ne (by omega)).trans ((u_ne (by omega)).trans h3)
    · exact h4.k (fun k => (u_ne (by omega)).trans (u_ne (by omega)))
theorem e_holdK (hb : b0 = 5 ∨ b0 = 10) (w : WT m) (f : Fx (RK b0) m0 m) (C : XC b0 cd wt m) (hl : wt.length < 40) {x : Int32} : Ct ad μX5_hold d [.ref (ad b0), .int x] m (fun r m' => r = none ∧ WT m' ∧ Fx (RK b0) m0 m' ∧ XC b0 cd (x :: wt) m') := by
  obtain ⟨h1, h2, h3, h4⟩ := C
  have tl : (nI wt.length).toInt = wt.length := nI_toInt (by omega)
  refine v_X5_hold (Ru_of hb) ⟨fun c => ?_, fun c => ?_⟩
  · rw [h3] at c; have := y_lel (n := 40) rfl c; omega
  · have e : (uI m (b0 + 3) (m.1 b0 5).toNatClampNeg x).1 b0 5 = m.1 b0 5 := u_ne (by omega)
    rw [e, h3, nI_1, nI_clamp (by omega)]
    refine ⟨nat_in (by omega) (by decide), rfl, wR_5 hb (wR3 hb w) ?_ ?_, (f.i (Or.inr (Or.inr rfl))).i (Or.inl ⟨rfl, Or.inr rfl⟩), ?_, ?_, ?_, ?_⟩
    · rw [nI_toInt (by omega)]; omega
    · rw [nI_toInt (by omega)]; omega
    · exact (u_ne (by omega)).trans ((u_ne (by omega)).trans h1)
    · exact h2.k (fun k => (u_ne (by omega)).trans (u_ne (by omega)))
    · rw [List.length_cons]; exact u_eq
    · exact (LCel.c (x := x) h4).k (fun k => u_ne (by omega))
theorem e_rank {c : Int32} : Ct ad μX5_rank d [.int c] m (fun r m' => m' = m ∧ r = some (.int (nI (rkN c)))) := by
  refine v_X5_rank ⟨?_, ?_, ?_, ?_, ?_, ?_, ?_, ?_, fun h1 h2 h3 h4 h5 h6 h7 h8 => ?_⟩
  all_goals first
    | (rintro rfl; exact ⟨rfl, rfl⟩)
    | skip
  refine ⟨rfl, ?_⟩
  have e : rkN c = 0 := by
    unfold rkN
    rw [if_neg (fun q => q.elim h1 h4), if_neg (fun q => q.elim h2 h3), if_neg (fun q => q.elim h5 (fun q => q.elim h6 h7)), if_neg h8]
  rw [e]
  rfl
theorem rk_4 {c : Int32} : rkN c ≤ 4 := by
  unfold rkN
  repeat' split
  all_goals omega
theorem e_relK (hb : b0 = 5 ∨ b0 = 10) (w : WT m) (f : Fx (RK b0) m0 m) (C : XC b0 cd wt m) (hl : cd.length + wt.length ≤ 40) {r : Nat} (hr : r ≤ 4) : Ct ad μX5_release (d + 1) [.ref (ad b0), .int (nI r)] m (fun v m' => v = none ∧ WT m' ∧ Fx (RK b0) m0 m' ∧ XC b0 (relL r wt cd).1 (relL r wt cd).2 m') := by
  have L : ∀ (wt cd : List Int32) (m1 : Wm), cd.length + wt.length ≤ 40 → WT m1 → Fx (RK b0) m0 m1 → XC b0 cd wt m1 → AW ad E0 μX5_release (d + 1) (fun v m' => v = none ∧ WT m' ∧ Fx (RK b0) m0 m' ∧ XC b0 (relL r wt cd).1 (relL r wt cd).2 m') 7 [(0, .ref (ad b0)), (1, .int (nI r)), (2, .int (nI wt.length - 1))] [] m1 := by
    intro wt
    induction wt with
    | nil =>
      intro cd m1 hl w1 f1 C1
      exact g_X5_release_7 (Ru_of hb) ⟨fun _ => ⟨rfl, w1, f1, C1⟩, fun c => absurd (show nI ([] : List Int32).length - 1 < 0 by decide) c⟩
    | cons y wt ih =>
      intro cd m1 hl w1 f1 C1
      obtain ⟨h1, h2, h3, h4⟩ := C1
      rw [List.length_cons] at hl
      have ex : nI (y :: wt).length - 1 = nI wt.length := by rw [List.length_cons]; exact (nI_sb (a := wt.length + 1) (b := 1) (by omega) (by omega)).trans (congrArg nI (Nat.add_sub_cancel _ _))
      rw [ex]
      have tl : (nI wt.length).toInt = wt.length := nI_toInt (by omega)
      have hy := h4.h
      refine g_X5_release_7 (Ru_of hb) ⟨fun c => ?_, fun _ => ?_⟩
      · have := y_ltr (n := 0) rfl c; omega
      · rw [nI_clamp (by omega), hy]
        refine ⟨nat_in (by omega) (by decide), (e_rank).to ?_⟩
        rintro _ m' ⟨eq, rfl⟩
        obtain rfl := eq.symm
        have rk := rk_4 (c := y)
        have er : relL r (y :: wt) cd = if rkN y < r then (cd, y :: wt) else relL r wt ((1000 + y) :: cd) := rfl
        refine ⟨_, rfl, fun c => ?_, fun c => ?_⟩
        · have c' := (nI_leI (a := r) (b := rkN y) (by omega) (by omega)).mp c
          rw [er, if_neg (by omega), hy]
          refine ⟨nat_in (by omega) (by decide), (e_emitK hb w1 f1 ⟨h1, h2, h3, h4⟩ (by omega)).to ?_⟩
          rintro _ m3 ⟨rfl, w3, f3, k1, k2, k3, k4⟩
          refine ⟨rfl, ?_⟩
          have e1 : nI wt.length + (-1 : Int32) = nI wt.length - 1 := by rw [Int32.sub_eq_add_neg]
          rw [e1]
          exact ih _ _ (by rw [List.length_cons]; omega) (wR_5 hb w3 (by omega) (by omega)) (f3.i (Or.inl ⟨rfl, Or.inr rfl⟩)) ⟨(u_ne (by omega)).trans k1, k2.k (fun k => u_ne (by omega)), u_eq, (k4.t).k (fun k => u_ne (by omega))⟩
        · have c' : ¬ r ≤ rkN y := fun z => c ((nI_leI (a := r) (b := rkN y) (by omega) (by omega)).mpr z)
          rw [er, if_pos (by omega)]
          exact ⟨rfl, w1, f1, h1, h2, h3, h4⟩
  refine v_X5_release (Ru_of hb) ?_
  rw [C.2.2.1]
  exact L wt cd m hl w f C
theorem RK_B (a k : Nat) (h : RK b0 a k) : RB b0 a k := by unfold RK at h; unfold RB; omega
theorem RB_1 (hb : b0 = 5 ∨ b0 = 10) (a k : Nat) (h : RB b0 a k) : RS [1] a k := by
  rcases hb with rfl | rfl
  · rcases h with ⟨rfl, h1, h2⟩ | rfl | rfl | rfl <;> rfl
  · rcases h with ⟨rfl, h1, h2⟩ | rfl | rfl | rfl <;> rfl
end RCC
end
section
/-! THE RULE: the class's reader, a sign a step -/
theorem rst_0 {c : Int32} {w : Bool} {dg : Nat} {fs : List Bool} (h : ¬ isDg c) : rst c (w, dg, fs) = rst c (w, 0, fs) := by
  unfold rst
  dsimp only
  rw [if_neg h, if_neg h]
theorem xst_0 {c : Int32} {w : Bool} {dg : Nat} {fs : List Bool} {cd wl : List Int32} (h : ¬ isDg c) : xst c ((w, dg, fs), cd, wl) = xst c ((w, 0, fs), cd, wl) := by
  unfold xst
  dsimp only
  rw [rst_0 h]
section RCT
variable {ad : Nat → Nat} {d b0 : Nat} {m m0 : Wm} {c : Int32} {w : Bool} {dg : Nat} {fs : List Bool} {cd wl : List Int32}
theorem e_isThing : Ct ad μX5_isThing d [.int c] m (fun r m' => m' = m ∧ r = some (.int (if isLt c then 1 else 0))) := by
  have z97 : (97 : Int32).toInt = 97 := rfl
  have z100 : (100 : Int32).toInt = 100 := rfl
  have g : ¬ (97 ≤ c ∧ c ≤ 100) → AW ad E0 μX5_isThing d (fun r m' => m' = m ∧ r = some (.int (if isLt c then 1 else 0))) 12 [(0, .int c)] [] m := fun h => by
    have yes : isLt c → m = m ∧ some (Value.int 1) = some (.int (if isLt c then 1 else 0)) := fun q => ⟨rfl, by rw [if_pos q]⟩
    refine g_X5_isThing_12 ⟨fun q => yes (Or.inr (Or.inl q)), fun n1 => ⟨fun q => yes (Or.inr (Or.inr (Or.inl q))), fun n2 => ⟨fun q => yes (Or.inr (Or.inr (Or.inr (Or.inl q)))), fun n3 => ⟨fun q => yes (Or.inr (Or.inr (Or.inr (Or.inr (Or.inl q))))), fun n4 => ⟨fun q => yes (Or.inr (Or.inr (Or.inr (Or.inr (Or.inr (Or.inl q)))))), fun n5 => ⟨fun n6 => ⟨rfl, ?_⟩, fun q => yes (Or.inr (Or.inr (Or.inr (Or.inr (Or.inr (Or.inr q))))))⟩⟩⟩⟩⟩⟩
    rw [if_neg]
    rintro (q | q | q | q | q | q | q)
    · exact h q
    · exact n1 q
    · exact n2 q
    · exact n3 q
    · exact n4 q
    · exact n5 q
    · exact n6 q
  refine v_X5_isThing ⟨fun q => g (fun z => ?_), fun n1 => ⟨fun q => ⟨rfl, ?_⟩, fun n2 => g (fun z => n2 z.2)⟩⟩
  · have h1 := z_lt q
    have h2 := z_le z.1
    omega
  · rw [if_pos (Or.inl ⟨(fa_le _ _).mpr (by have := z_nlt n1; omega), q⟩)]
theorem wR_n (hb : b0 = 5 ∨ b0 = 10) (wt : WT m) {k : Nat} {v : Int32} (hk : k = 7 ∨ k = 8) : WT (uI m b0 k v) := by
  rcases hb with rfl | rfl <;> rcases hk with rfl | rfl <;> exact wt.n rfl
theorem wR_6 (hb : b0 = 5 ∨ b0 = 10) (wt : WT m) {v : Int32} (h0 : 0 ≤ v.toInt) (h1 : v.toInt ≤ 4) : WT (uI m b0 6 v) := by rcases hb with rfl | rfl; exact wt.t rfl h0 h1; exact wt.t rfl h0 h1
theorem wRf (hb : b0 = 5 ∨ b0 = 10) (wt : WT m) {k : Nat} {v : Int32} : WT (uI m (b0 + 4) k v) := by rcases hb with rfl | rfl; exact wt.n rfl; exact wt.n rfl
theorem fR {m1 : Wm} (hb : b0 = 5 ∨ b0 = 10) (f : Fx (RB b0) m0 m1) {k : Nat} {v : Int32} (hk : 4 ≤ k ∧ k ≤ 8) : Fx (RB b0) m0 (uI m1 b0 k v) := f.i (Or.inl ⟨rfl, hk⟩)
theorem fRa {m1 : Wm} (hb : b0 = 5 ∨ b0 = 10) (f : Fx (RB b0) m0 m1) {j k : Nat} {v : Int32} (hj : j = 1 ∨ j = 3 ∨ j = 4) : Fx (RB b0) m0 (uI m1 (b0 + j) k v) := f.i (Or.inr (by omega))
theorem e_digit (hb : b0 = 5 ∨ b0 = 10) (wt : WT m) (f : Fx (RB b0) m0 m) (C : RX b0 ((w, dg, fs), cd, wl) m) (hl : cd.length + wl.length < 40) (hd : isDg c) : Ct ad μX5_takeDigit (d + 1) [.ref (ad b0), .int (c - 48)] m (fun r m' => ∃ v : Int32, r = some (.int v) ∧ bz v ∧ RXQ m0 b0 c ((w, dg, fs), cd, wl) (some (.int v)) m') := by
  obtain ⟨c8, c7, dg3, c4, X, D, h1, h2, h6, hfl⟩ := C
  refine v_X5_takeDigit (Ru_of hb) ⟨fun q => ?_, fun q => ?_⟩
  · have hw : w = false := by
      cases w with
      | false => rfl
      | true => rw [c8, if_pos rfl] at q; exact absurd q (by decide)
    subst hw
    obtain ⟨x1, x2, x3, x4⟩ := X
    cases cd with
    | nil => exact absurd rfl (c4 rfl)
    | cons y r =>
    rw [List.length_cons] at hl
    have ex : m.1 b0 4 - 1 = nI r.length := by rw [x1, List.length_cons]; exact (nI_sb (a := r.length + 1) (b := 1) (by omega) (by omega)).trans (congrArg nI (Nat.add_sub_cancel _ _))
    have hy := x2.h
    rw [ex, c7, nI_clamp (by omega), hy]
    have V : vp_in (nI r.length) 40 := nat_in (by omega) (by decide)
    refine ⟨fun z => ⟨0, rfl, bz_0, wt, f, Or.inr ⟨rfl, xst_none (rst_dn hd (Or.inl ((nI_eq (a := dg) (b := 0) (by omega) (by omega)).mp z)))⟩⟩, fun z => ⟨fun z3 => ⟨0, rfl, bz_0, wt, f, Or.inr ⟨rfl, xst_none (rst_dn hd (Or.inr ((nI_eq (a := dg) (b := 3) (by omega) (by omega)).mp z3)))⟩⟩, fun z3 => ⟨fun z4 => ⟨V, V, ?_⟩, fun z4 => ?_⟩⟩⟩
    · have n0 : ¬ dg = 0 := fun q => z (by rw [q]; rfl)
      have n3 : ¬ dg = 3 := fun q => z3 (by rw [q]; rfl)
      have e7 : (uI m (b0 + 1) r.length (y * 10 + (c - 48))).1 b0 7 = nI dg := (u_ne (by omega)).trans c7
      rw [e7, nI_1]
      refine ⟨1, rfl, bz_1, wR_n hb (wR1 hb wt) (Or.inl rfl), fR hb (fRa hb f (Or.inl rfl)) (by omega), Or.inl ⟨rfl, _, xs_ds hd (by omega), (u_ne (by omega)).trans ((u_ne (by omega)).trans c8), u_eq, by omega, fun _ => by simp, ⟨?_, ?_, ?_, ?_⟩, D, h1, h2, (u_ne (by omega)).trans ((u_ne (by omega)).trans h6), fun i hi => (u_ne (by omega)).trans ((u_ne (by omega)).trans (hfl i hi))⟩⟩
      · exact (u_ne (by omega)).trans ((u_ne (by omega)).trans x1)
      · exact (LCel.c (x := y * 10 + (c - 48)) x2.t).k (fun k => u_ne (by omega))
      · exact (u_ne (by omega)).trans ((u_ne (by omega)).trans x3)
      · exact x4.k (fun k => (u_ne (by omega)).trans (u_ne (by omega)))
    · rw [x1, List.length_cons] at z4
      have := (nI_eq (a := r.length + 1) (b := 0) (by omega) (by omega)).mp z4
      omega
  · have hw : w = true := by
      cases w with
      | true => rfl
      | false => exact absurd c8 q
    subst hw
    refine (e_emitK (m0 := m) hb wt Fx.rf X (by omega)).to ?_
    rintro _ m1 ⟨rfl, w1, f1, X1⟩
    have k : ∀ a j, ¬ RK b0 a j → m1.1 a j = m.1 a j := fun a j h => f1.at h
    refine ⟨rfl, 1, rfl, bz_1, wR_n hb (wR_n hb w1 (Or.inl rfl)) (Or.inr rfl), fR hb (fR hb (f.tr f1 RK_B) (by omega)) (by omega), Or.inl ⟨rfl, _, xs_d hd, u_eq, (u_ne (by omega)).trans u_eq, by omega, fun _ => by simp, X1.k (fun a k h => by unfold RK at h; exact (u_ne (by omega)).trans (u_ne (by omega))), D, h1, h2, (u_ne (by omega)).trans ((u_ne (by omega)).trans ((k b0 6 (by unfold RK; omega)).trans h6)), fun i hi => (u_ne (by omega)).trans ((u_ne (by omega)).trans ((k (b0 + 4) i (by unfold RK; omega)).trans (hfl i hi)))⟩⟩
end RCT
section RCU
variable {ad : Nat → Nat} {d b0 : Nat} {m m0 : Wm} {c : Int32} {w : Bool} {dg : Nat} {fs : List Bool} {cd wl : List Int32}
theorem e_thing (hb : b0 = 5 ∨ b0 = 10) (wt : WT m) (f : Fx (RB b0) m0 m) (C : RX b0 ((true, 0, fs), cd, wl) m) (hl : cd.length + wl.length < 40) (hd : ¬ isDg c) : Ct ad μX5_takeThing (d + 1) [.ref (ad b0), .int c] m (fun r m' => ∃ v : Int32, r = some (.int v) ∧ bz v ∧ RXQ m0 b0 c ((true, 0, fs), cd, wl) (some (.int v)) m') := by
  obtain ⟨c8, c7, dg3, c4, X, D, h1, h2, h6, hfl⟩ := C
  refine v_X5_takeThing (Ru_of hb) ⟨fun n45 => ⟨fun n40 => (e_isThing).to ?_, fun q40 => ?_⟩, fun q45 => ?_⟩
  · rintro _ m' ⟨eq, rfl⟩
    obtain rfl := eq.symm
    by_cases hl2 : isLt c
    · refine ⟨1, by rw [if_pos hl2], fun _ => (e_emitK (m0 := m) hb wt Fx.rf X (by omega)).to ?_, fun z => absurd z (by decide)⟩
      rintro _ m1 ⟨rfl, w1, f1, X1⟩
      exact ⟨rfl, 1, rfl, bz_1, wR_n hb w1 (Or.inr rfl), fR hb (f.tr f1 RK_B) (by omega), Or.inl ⟨rfl, _, xs_l hl2, u_eq, (u_ne (by omega)).trans ((f1.at (by unfold RK; omega)).trans c7), by omega, fun _ => by simp, X1.k (fun a k h => by unfold RK at h; exact u_ne (by omega)), D, h1, h2, (u_ne (by omega)).trans ((f1.at (by unfold RK; omega)).trans h6), fun i hi => (u_ne (by omega)).trans ((f1.at (by unfold RK; omega)).trans (hfl i hi))⟩⟩
    · exact ⟨0, by rw [if_neg hl2], fun z => absurd rfl z, fun _ => ⟨0, rfl, bz_0, wt, f, Or.inr ⟨rfl, xst_none (rst_wn hd n45 n40 hl2)⟩⟩⟩
  · subst q40
    have tD : (nI D).toInt = D := nI_toInt (by omega)
    have tD1 : (nI (D + 1)).toInt = (D : Int) + 1 := by rw [nI_toInt (by omega)]; omega
    rw [h6, nI_1]
    have e6 : (uI m b0 6 (nI (D + 1))).1 b0 6 = nI (D + 1) := u_eq
    rw [e6]
    refine ⟨fun q => ⟨?_, ?_⟩, fun q => ⟨0, rfl, bz_0, wt, f, Or.inr ⟨rfl, xst_none (rst_on ?_)⟩⟩⟩
    · have := y_ltr (n := 4) rfl q
      exact nat_in (by omega) (by decide)
    · have hD := y_ltr (n := 4) rfl q
      rw [nI_clamp (by omega)]
      have eb : vp_nar .boolean (0 : Int32) = 0 := rfl
      rw [eb]
      have wx : WT (uI (uI m b0 6 (nI (D + 1))) (b0 + 4) (D + 1) (0 : Int32)) := wRf hb (wR_6 hb wt (by omega) (by omega))
      have fx : Fx (RB b0) m0 (uI (uI m b0 6 (nI (D + 1))) (b0 + 4) (D + 1) (0 : Int32)) := fRa hb (fR hb f (by omega)) (Or.inr (Or.inr rfl))
      have Xx : XC b0 cd wl (uI (uI m b0 6 (nI (D + 1))) (b0 + 4) (D + 1) (0 : Int32)) := X.k (fun a k h => by unfold RK at h; exact (u_ne (by omega)).trans (u_ne (by omega)))
      refine (e_holdK (m0 := uI (uI m b0 6 (nI (D + 1))) (b0 + 4) (D + 1) (0 : Int32)) hb wx Fx.rf Xx (by omega)).to ?_
      rintro _ m1 ⟨rfl, w1, f1, X1⟩
      refine ⟨rfl, 1, rfl, bz_1, w1, fx.tr f1 RK_B, Or.inl ⟨rfl, _, xs_o (by omega), (f1.at (by unfold RK; omega)).trans ((u_ne (by omega)).trans ((u_ne (by omega)).trans c8)), (f1.at (by unfold RK; omega)).trans ((u_ne (by omega)).trans ((u_ne (by omega)).trans c7)), by omega, fun z => absurd z (by decide), X1, D + 1, by rw [List.length_cons, h1], by omega, (f1.at (by unfold RK; omega)).trans ((u_ne (by omega)).trans u_eq), fun i hi => ?_⟩⟩
      refine (f1.at (by unfold RK; omega)).trans ?_
      by_cases hi2 : i = D + 1
      · subst hi2
        rw [Nat.sub_self]
        exact u_eq
      · rw [u_ne (fun z => hi2 z.2), u_ne (by omega), hfl i (by omega), show D + 1 - i = (D - i) + 1 by omega]
        rfl
    · have := y_nltr (n := 4) rfl q
      omega
  · subst q45
    refine (e_holdK (m0 := m) hb wt Fx.rf X (by omega)).to ?_
    rintro _ m1 ⟨rfl, w1, f1, X1⟩
    exact ⟨rfl, 1, rfl, bz_1, w1, f.tr f1 RK_B, Or.inl ⟨rfl, _, xs_m, (f1.at (by unfold RK; omega)).trans c8, (f1.at (by unfold RK; omega)).trans c7, by omega, fun z => absurd z (by decide), X1, D, h1, h2, (f1.at (by unfold RK; omega)).trans h6, fun i hi => (f1.at (by unfold RK; omega)).trans (hfl i hi)⟩⟩
theorem fAt_0 {f : Bool} {r : List Bool} : fAt (f :: r) 0 = f := rfl
theorem fAt_s {f : Bool} {r : List Bool} {k : Nat} : fAt (f :: r) (k + 1) = fAt r k := rfl
theorem e_join (hb : b0 = 5 ∨ b0 = 10) (wt : WT m) (f : Fx (RB b0) m0 m) (C : RX b0 ((false, 0, fs), cd, wl) m) (hl : cd.length + wl.length < 40) (hd : ¬ isDg c) (hc : c.toInt ≤ 255) : Ct ad μX5_takeJoin (d + 2) [.ref (ad b0), .int c] m (fun r m' => ∃ v : Int32, r = some (.int v) ∧ bz v ∧ RXQ m0 b0 c ((false, 0, fs), cd, wl) (some (.int v)) m') := by
  obtain ⟨c8, c7, dg3, c4, X, D, h1, h2, h6, hfl⟩ := C
  have cn := c4 rfl
  have ls := relL_len (r := rkN c) wl cd
  have tD : (nI D).toInt = D := nI_toInt (by omega)
  -- after the flag: what is held by rank, then the sign
  have fin : ∀ (fs' : List Bool) (m1 : Wm), xst c ((false, 0, fs), cd, wl) = some ((true, 0, fs'), (relL (rkN c) wl cd).1, c :: (relL (rkN c) wl cd).2) → fs'.length = D + 1 → WT m1 → Fx (RB b0) m0 m1 → XC b0 cd wl m1 → m1.1 b0 7 = 0 → m1.1 b0 6 = nI D → (∀ i, i ≤ D → m1.1 (b0 + 4) i = if fAt fs' (D - i) = true then 1 else 0) → AW ad E0 μX5_takeJoin (d + 1 + 1) (fun r m' => ∃ v : Int32, r = some (.int v) ∧ bz v ∧ RXQ m0 b0 c ((false, 0, fs), cd, wl) (some (.int v)) m') 89 [(0, .ref (ad b0)), (1, .int c), (2, .int (nI (rkN c)))] [] m1 := by
    intro fs' m1 hs hl1 w1 f1 X1 k7 k6 kf
    refine g_X5_takeJoin_89 (Ru_of hb) ((e_relK (m0 := m1) hb w1 Fx.rf X1 (by omega) rk_4).to ?_)
    rintro _ m2 ⟨rfl, w2, f2, X2⟩
    refine ⟨rfl, (e_holdK (m0 := m1) hb w2 f2 X2 (by omega)).to ?_⟩
    rintro _ m3 ⟨rfl, w3, f3, X3⟩
    exact ⟨rfl, 1, rfl, bz_1, wR_n hb w3 (Or.inr rfl), fR hb (f1.tr f3 RK_B) (by omega), Or.inl ⟨rfl, _, hs, u_eq, (u_ne (by omega)).trans ((f3.at (by unfold RK; omega)).trans k7), by omega, fun z => absurd z (by decide), X3.k (fun a k h => by unfold RK at h; exact u_ne (by omega)), D, hl1, h2, (u_ne (by omega)).trans ((f3.at (by unfold RK; omega)).trans k6), fun i hi => (u_ne (by omega)).trans ((f3.at (by unfold RK; omega)).trans (kf i hi))⟩⟩
  refine v_X5_takeJoin (Ru_of hb) ⟨fun n41 => (e_rank).to ?_, fun q41 => ?_⟩
  · rintro _ m' ⟨eq, rfl⟩
    obtain rfl := eq.symm
    have rk : rkN c ≤ 4 := rk_4
    refine ⟨_, rfl, fun z => ?_, fun z => ⟨fun z1 => ?_, fun z1 => ?_⟩⟩
    · have e0 : rkN c = 0 := (nI_eq (a := rkN c) (b := 0) (by omega) (by omega)).mp z
      have nj : ¬ isJn c ∧ ¬ isCm c := by
        unfold rkN at e0
        by_cases a1 : c = 42 ∨ c = 47
        · rw [if_pos a1] at e0; omega
        · by_cases a2 : c = 43 ∨ c = 45
          · rw [if_neg a1, if_pos a2] at e0; omega
          · by_cases a3 : isCm c
            · rw [if_neg a1, if_neg a2, if_pos a3] at e0; omega
            · exact ⟨fun q => by rcases q with q | q | q | q; exact a1 (Or.inl q); exact a2 (Or.inl q); exact a2 (Or.inr q); exact a1 (Or.inr q), a3⟩
      exact ⟨0, rfl, bz_0, wt, f, Or.inr ⟨rfl, xst_none (rst_n hd n41 nj.2 nj.1)⟩⟩
    · have hj : isJn c := by
        by_cases a1 : c = 42 ∨ c = 47
        · rcases a1 with q | q
          · exact Or.inl q
          · exact Or.inr (Or.inr (Or.inr q))
        · by_cases a2 : c = 43 ∨ c = 45
          · rcases a2 with q | q
            · exact Or.inr (Or.inl q)
            · exact Or.inr (Or.inr (Or.inl q))
          · exfalso
            by_cases a3 : isCm c
            · have e : rkN c = 1 := by unfold rkN; rw [if_neg a1, if_neg a2, if_pos a3]
              exact z1 (by rw [e]; rfl)
            · have n4 : ¬ c = 256 := fun q => by rw [q] at hc; exact absurd hc (by decide)
              have e : rkN c = 0 := by unfold rkN; rw [if_neg a1, if_neg a2, if_neg a3, if_neg n4]
              exact z (by rw [e]; rfl)
      exact g_X5_takeJoin_74 (Ru_of hb) ⟨fun _ => fin fs m (xs_j hj) h1 wt f X c7 h6 hfl, fun q => absurd q z1⟩
    · have hcm : isCm c := by
        by_cases a1 : c = 42 ∨ c = 47
        · have e : rkN c = 3 := by unfold rkN; rw [if_pos a1]
          rw [e] at z1; exact absurd z1 (by decide)
        · by_cases a2 : c = 43 ∨ c = 45
          · have e : rkN c = 2 := by unfold rkN; rw [if_neg a1, if_pos a2]
            rw [e] at z1; exact absurd z1 (by decide)
          · by_cases a3 : isCm c
            · exact a3
            · have n4 : ¬ c = 256 := fun q => by rw [q] at hc; exact absurd hc (by decide)
              have e : rkN c = 0 := by unfold rkN; rw [if_neg a1, if_neg a2, if_neg a3, if_neg n4]
              exact absurd (by rw [e]; rfl) z
      obtain ⟨f0, r, rfl⟩ : ∃ f0 r, fs = f0 :: r := by
        cases fs with
        | nil => exact absurd h1 (by simp)
        | cons f0 r => exact ⟨f0, r, rfl⟩
      have hD := hfl D (Nat.le_refl _)
      rw [Nat.sub_self, fAt_0] at hD
      rw [h6, nI_clamp (by omega)]
      refine ⟨nat_in (by omega) (by decide), fun q => ?_, fun q => ?_⟩
      · have hf0 : f0 = false := by
          cases f0 with
          | false => rfl
          | true => rw [hD, if_pos rfl] at q; exact absurd q (by decide)
        subst hf0
        refine g_X5_takeJoin_74 (Ru_of hb) ⟨fun q2 => absurd z1 q2, fun _ => ?_⟩
        rw [h6, nI_clamp (by omega)]
        have eb : vp_nar .boolean (1 : Int32) = 1 := rfl
        rw [eb]
        refine ⟨nat_in (by omega) (by decide), fin (true :: r) _ (xs_c hcm) (by rw [List.length_cons] at h1 ⊢; exact h1) (wRf hb wt) (fRa hb f (Or.inr (Or.inr rfl))) (X.k (fun a k h => by unfold RK at h; exact u_ne (by omega))) ((u_ne (by omega)).trans c7) ((u_ne (by omega)).trans h6) (fun i hi => ?_)⟩
        by_cases hi2 : i = D
        · subst hi2
          rw [Nat.sub_self]
          exact u_eq
        · rw [u_ne (fun z => hi2 z.2), hfl i hi, show D - i = (D - i - 1) + 1 by omega]
          rfl
      · have hf0 : f0 = true := by
          cases f0 with
          | true => rfl
          | false => exact absurd hD q
        subst hf0
        exact ⟨0, rfl, bz_0, wt, f, Or.inr ⟨rfl, xst_none (rst_cn hcm)⟩⟩
  · subst q41
    refine ⟨fun q => (e_relK (m0 := m) (r := 1) hb wt Fx.rf X (by omega) (by decide)).to ?_, fun q => ?_⟩
    · have hD0 : D ≠ 0 := fun z => q (by rw [h6, z]; rfl)
      obtain ⟨f0, g, r, rfl⟩ : ∃ f0 g r, fs = f0 :: g :: r := by
        cases fs with
        | nil => exact absurd h1 (by simp)
        | cons f0 r =>
          cases r with
          | nil => rw [List.length_cons, List.length_nil] at h1; omega
          | cons g r => exact ⟨f0, g, r, rfl⟩
      rintro _ m1 ⟨rfl, w1, f1, X1⟩
      have n1 := relL_ne (r := 1) wl cd cn
      have l1 := relL_len (r := 1) wl cd
      have hp5 : (if (0 : Int32) < m1.1 b0 5 - 1 then m1.1 b0 5 - 1 else (0 : Int32)) = nI (relL 1 wl cd).2.tail.length ∧ LCel m1 (b0 + 3) (relL 1 wl cd).2.tail := by
        obtain ⟨-, -, x3, x4⟩ := X1
        rw [x3]
        generalize (relL 1 wl cd).2 = l at x3 x4 l1
        cases l with
        | nil => exact ⟨by decide, fun i hi => absurd hi (Nat.not_lt_zero i)⟩
        | cons x l =>
          rw [List.length_cons] at l1
          refine ⟨?_, x4.t⟩
          have ex : nI (x :: l).length - 1 = nI l.length := by rw [List.length_cons]; exact (nI_sb (a := l.length + 1) (b := 1) (by omega) (by omega)).trans (congrArg nI (Nat.add_sub_cancel _ _))
          rw [ex]
          show (if (0 : Int32) < nI l.length then nI l.length else 0) = nI l.length
          by_cases h0 : l.length = 0
          · rw [h0]; decide
          · rw [if_pos ((fa_lt _ _).mpr (by rw [nI_toInt (by omega)]; have z : (0 : Int32).toInt = 0 := rfl; omega))]
      have t5 := cnt5 hb w1
      have z1 : (1 : Int32).toInt = 1 := rfl
      have z0 : (0 : Int32).toInt = 0 := rfl
      have ts : (m1.1 b0 5 - 1).toInt = (m1.1 b0 5).toInt - 1 := by
        have := ti_sub (x := m1.1 b0 5) (y := (1 : Int32)) (by omega)
        omega
      have hv : 0 ≤ (if (0 : Int32) < m1.1 b0 5 - 1 then m1.1 b0 5 - 1 else (0 : Int32)).toInt ∧ (if (0 : Int32) < m1.1 b0 5 - 1 then m1.1 b0 5 - 1 else (0 : Int32)).toInt ≤ 40 := by
        by_cases hp : (0 : Int32) < m1.1 b0 5 - 1
        · rw [if_pos hp]
          have := z_lt hp
          omega
        · rw [if_neg hp]
          omega
      generalize (if (0 : Int32) < m1.1 b0 5 - 1 then m1.1 b0 5 - 1 else (0 : Int32)) = x at hv hp5 ⊢
      have e6 : (uI m1 b0 5 x).1 b0 6 = nI D := (u_ne (by omega)).trans ((f1.at (by unfold RK; omega)).trans h6)
      have e6' : nI D - 1 = nI (D - 1) := nI_sb (b := 1) (by omega) (by omega)
      rw [e6, e6']
      have tD' : (nI (D - 1)).toInt = ((D - 1 : Nat) : Int) := nI_toInt (by omega)
      refine ⟨rfl, 1, rfl, bz_1, wR_6 hb (wR_5 hb w1 hv.1 hv.2) (by omega) (by omega), fR hb (fR hb (f.tr f1 RK_B) (by omega)) (by omega), Or.inl ⟨rfl, _, xs_p, (u_ne (by omega)).trans ((u_ne (by omega)).trans ((f1.at (by unfold RK; omega)).trans c8)), (u_ne (by omega)).trans ((u_ne (by omega)).trans ((f1.at (by unfold RK; omega)).trans c7)), by omega, fun _ => n1, ⟨(u_ne (by omega)).trans ((u_ne (by omega)).trans X1.1), X1.2.1.k (fun k => (u_ne (by omega)).trans (u_ne (by omega))), (u_ne (by omega)).trans (u_eq.trans hp5.1), hp5.2.k (fun k => (u_ne (by omega)).trans (u_ne (by omega)))⟩, D - 1, by simp only [List.length_cons] at h1 ⊢; omega, by omega, u_eq, fun i hi => ?_⟩⟩
      refine (u_ne (by omega)).trans ((u_ne (by omega)).trans ((f1.at (by unfold RK; omega)).trans ((hfl i (by omega)).trans ?_)))
      rw [show D - i = (D - 1 - i) + 1 by omega]
      rfl
    · have hD0 : D = 0 := (nI_eq (a := D) (b := 0) (by omega) (by omega)).mp (h6.symm.trans q)
      obtain ⟨f0, rfl⟩ : ∃ f0, fs = [f0] := by
        cases fs with
        | nil => exact absurd h1 (by simp)
        | cons f0 r =>
          cases r with
          | nil => exact ⟨f0, rfl⟩
          | cons g r => rw [List.length_cons, List.length_cons] at h1; omega
      exact ⟨0, rfl, bz_0, wt, f, Or.inr ⟨rfl, xst_none rst_p1⟩⟩
end RCU
end
section
/-! THE RULE: both sides -/
section RCV
variable {ad : Nat → Nat} {d b0 : Nat} {m m0 : Wm} {c : Int32} {w : Bool} {dg : Nat} {fs : List Bool} {cd wl : List Int32}
theorem e_take5 (hb : b0 = 5 ∨ b0 = 10) (wt : WT m) (f : Fx (RB b0) m0 m) (C : RX b0 ((w, dg, fs), cd, wl) m) (hl : cd.length + wl.length < 40) (hc : c.toInt ≤ 255) : Ct ad μX5_take (d + 3) [.ref (ad b0), .int c] m (fun r m' => ∃ v : Int32, r = some (.int v) ∧ RXQ m0 b0 c ((w, dg, fs), cd, wl) (some (.int v)) m') := by
  have g21 : ¬ isDg c → AW ad E0 μX5_take (d + 2 + 1) (fun r m' => ∃ v : Int32, r = some (.int v) ∧ RXQ m0 b0 c ((w, dg, fs), cd, wl) (some (.int v)) m') 21 [(0, .ref (ad b0)), (1, .int c)] [] m := fun hd => by
    have C0 : RX b0 ((w, 0, fs), cd, wl) (uI m b0 7 0) := by
      obtain ⟨c8, c7, dg3, c4, X, D, h1, h2, h6, hfl⟩ := C
      exact ⟨(u_ne (by omega)).trans c8, u_eq, by omega, c4, X.k (fun a k h => by unfold RK at h; exact u_ne (by omega)), D, h1, h2, (u_ne (by omega)).trans h6, fun i hi => (u_ne (by omega)).trans (hfl i hi)⟩
    have w0 : WT (uI m b0 7 0) := wR_n hb wt (Or.inl rfl)
    have f0 : Fx (RB b0) m0 (uI m b0 7 0) := fR hb f (by omega)
    have up : ∀ (v : Int32) (m' : Wm), RXQ m0 b0 c ((w, 0, fs), cd, wl) (some (.int v)) m' → RXQ m0 b0 c ((w, dg, fs), cd, wl) (some (.int v)) m' := fun v m' h => by
      unfold RXQ at h ⊢
      rw [xst_0 (dg := dg) hd]
      exact h
    cases w with
    | false =>
      refine g_X5_take_21 (Ru_of hb) ⟨fun _ => (e_join (d := d) hb w0 f0 C0 hl hd hc).to ?_, fun q => absurd (C0.1.trans (if_neg (by decide))) q⟩
      rintro r m1 ⟨v, rfl, bv, h⟩
      exact ⟨v, rfl, bv, v, rfl, up v m1 h⟩
    | true =>
      refine g_X5_take_21 (Ru_of hb) ⟨fun q => absurd ((C0.1.trans (if_pos rfl)).symm.trans q) (by decide), fun _ => (e_thing (d := d + 1) hb w0 f0 C0 hl hd).to ?_⟩
      rintro r m1 ⟨v, rfl, bv, h⟩
      exact ⟨v, rfl, bv, v, rfl, up v m1 h⟩
  refine v_X5_take (d := d + 2) (Ru_of hb) ⟨fun q => g21 (fun z => ?_), fun q => ⟨fun q2 => g21 (fun z => ?_), fun q2 => ?_⟩⟩
  · have := z_lt q
    have := z_le z.1
    omega
  · have := z_lt q2
    have := z_le z.2
    omega
  · have hd : isDg c := ⟨(fa_le _ _).mpr (z_nlt q), (fa_le _ _).mpr (z_nlt q2)⟩
    refine (e_digit (d := d + 1) hb wt f C hl hd).to ?_
    rintro r m1 ⟨v, rfl, bv, h⟩
    exact ⟨v, rfl, bv, v, rfl, h⟩
/-- the code as it stands in b0, its last first -/
def CodeX (b0 : Nat) (cl : List Int32) (m : Wm) : Prop := m.1 b0 4 = nI cl.length ∧ LCel m (b0 + 1) cl ∧ cl.length ≤ 40
def rcR (b0 : Nat) (m : Wm) (O : Nat ⊕ XS) (r : Option Value) (m' : Wm) : Prop := WT m' ∧ Fx (RB b0) m m' ∧ (∀ q, O = .inl q → r = some (.int (nI q)) ∧ q ≤ 40) ∧ ∀ S, O = .inr S → r = some (.int (-1)) ∧ XC b0 (relL 1 S.2.2 S.2.1).1 (relL 1 S.2.2 S.2.1).2 m' ∧ (relL 1 S.2.2 S.2.1).1.length ≤ 40 ∧ (relL 1 S.2.2 S.2.1).1 ≠ []
theorem minT_40 {t : Nat} (ht : t ≤ 80) : (if (40 : Int32) < nI t then (40 : Int32) else nI t) = nI (minT t 40) := by
  unfold minT
  by_cases h : t < 40
  · rw [if_neg (fun q => by have := (lt_l 40 40 rfl (by decide) (by omega)).mp q; omega), if_pos h]
  · rw [if_neg h]
    by_cases h2 : 40 < t
    · rw [if_pos ((lt_l 40 40 rfl (by decide) (by omega)).mpr h2)]
      rfl
    · have : t = 40 := by omega
      rw [if_neg (fun q => h2 ((lt_l 40 40 rfl (by decide) (by omega)).mp q)), this]
theorem e_comp5 {t : Nat} (hb : b0 = 5 ∨ b0 = 10) (wt : WT m) (ht : m.1 1 1 = nI t) (ht80 : t ≤ 80) (ht0 : t ≠ 0) (hch : ∀ k, k < t → (m.1 2 k).toInt ≤ 255) : Ct ad μX5_compile (d + 4) [.ref (ad b0), .ref (ad 1)] m (rcR b0 m (MO xst xok (m.1 2) (decide (40 < t)) (minT t 40) 0 ((true, 0, [false]), [], []))) := by
  generalize hO0 : MO xst xok (m.1 2) (decide (40 < t)) (minT t 40) 0 ((true, 0, [false]), [], []) = O
  have e40 : minT t 40 ≤ 40 := by unfold minT; split <;> omega
  have et : minT t 40 ≤ t := by unfold minT; split <;> omega
  have L : ∀ (k p : Nat) (S : XS) (m1 : Wm), minT t 40 - p < k → p ≤ minT t 40 → S.2.1.length + S.2.2.length ≤ p → WT m1 → Fx (RB b0) m m1 → RX b0 S m1 → MO xst xok (m.1 2) (decide (40 < t)) (minT t 40 - p) p S = O →
      AW ad E0 μX5_compile (d + 3 + 1) (rcR b0 m O) 53 [(0, .ref (ad b0)), (1, .ref (ad 1)), (2, .int (nI (minT t 40))), (3, .int (nI p))] [] m1 := by
    intro k
    induction k with
    | zero => intros; omega
    | succ k ih =>
      intro p S m1 hk hp hln w1 f1 C hO
      obtain ⟨⟨w, dg, fs⟩, cd, wl⟩ := S
      dsimp only at hln
      have C1 := C
      obtain ⟨c8, c7, dg3, c4, X, D, h1, h2, h6, hfl⟩ := C
      have t1 : m1.1 1 1 = nI t := (f1.at (a := 1) (k := 1) (by unfold RB; omega)).trans ht
      have t2 : ∀ k, m1.1 2 k = m.1 2 k := fun k => f1.at (a := 2) (k := k) (by unfold RB; omega)
      refine g_X5_compile_53 (Ru_of hb) ⟨fun c => ?_, fun c => ?_⟩
      · have hpe : p = minT t 40 := by have := (nI_leI (a := minT t 40) (b := p) (by omega) (by omega)).mp c; omega
        rw [t1, c8, h6]
        rw [show minT t 40 - p = 0 by omega] at hO
        have bad : O = .inl p → rcR b0 m O (some (.int (nI (minT t 40)))) m1 := fun h => ⟨w1, f1, fun q2 h2 => (by rw [h] at h2; cases h2; exact ⟨by rw [hpe], by omega⟩), fun S2 h2 => (by rw [h] at h2; cases h2)⟩
        refine ⟨fun q => bad ?_, fun q => ⟨fun q8 => bad ?_, fun q8 => ⟨fun q6 => ?_, fun q6 => bad ?_⟩⟩⟩
        · have hb : decide (40 < t) = true := decide_eq_true ((lt_l 40 40 rfl (by decide) (by omega)).mp q)
          rw [← hO]
          exact MO_n (by rw [hb]; exact fun z => absurd z.1 (by decide))
        · have hw : w = true := by
            cases w with
            | true => rfl
            | false => exact absurd (if_neg (by decide)) q8
          rw [← hO]
          refine MO_n (fun z => ?_)
          have := (of_decide_eq_true z.2).1
          rw [hw] at this
          exact absurd this (by decide)
        · have hw : w = false := by
            cases w with
            | false => rfl
            | true => rw [if_pos rfl] at q8; exact absurd q8 (by decide)
          have hD : D = 0 := by
            have := (nI_leI (a := D) (b := 0) (by omega) (by omega)).mp q6
            omega
          have hbg : decide (40 < t) = false := decide_eq_false (fun z => q ((lt_l 40 40 rfl (by decide) (by omega)).mpr z))
          have hok : xok ((w, dg, fs), cd, wl) = true := decide_eq_true ⟨hw, by omega⟩
          rw [MO_e ⟨hbg, hok⟩] at hO
          refine (e_relK (d := d + 2) (m0 := m1) (r := 1) hb w1 Fx.rf X (by omega) (by decide)).to ?_
          rintro _ m2 ⟨rfl, w2, f2, X2⟩
          exact ⟨rfl, w2, f1.tr f2 RK_B, fun q2 h2 => (by rw [h2] at hO; cases hO), fun S e => (by rw [e] at hO; cases hO; exact ⟨rfl, X2, by have := relL_len (r := 1) wl cd; dsimp only; omega, by dsimp only; exact relL_ne _ _ (c4 hw)⟩)⟩
        · have hD : D ≠ 0 := fun z => q6 (by rw [z]; exact (nI_leI (a := 0) (b := 0) (by omega) (by omega)).mpr (Nat.le_refl _))
          rw [← hO]
          refine MO_n (fun z => ?_)
          have := (of_decide_eq_true z.2).2
          omega
      · have hpe : p < minT t 40 := Nat.lt_of_not_le (fun z => c ((nI_leI (a := minT t 40) (b := p) (by omega) (by omega)).mpr z))
        rw [nI_clamp (by omega), t2]
        refine ⟨nat_in (by omega) (by decide), (e_take5 (d := d) (m0 := m) hb w1 f1 C1 (by omega) (hch p (by omega))).to ?_⟩
        rintro r m2 ⟨v, rfl, w2, f2, h⟩
        rcases h with ⟨hv, S2, e2, hS2⟩ | ⟨hv, e2⟩
        · cases hv
          rw [MO_ss hpe e2] at hO
          refine ⟨1, rfl, fun _ => ?_, fun z => absurd z (by decide)⟩
          rw [nI_1]
          exact ih (p + 1) S2 m2 (by omega) (by omega) (by have := xst_len e2; dsimp only at this; omega) w2 f2 hS2 hO
        · cases hv
          rw [ep_s hpe, MO_f e2] at hO
          refine ⟨0, rfl, fun z => absurd rfl z, fun _ => ⟨w2, f2, fun q2 h2 => ?_, fun S2 h2 => ?_⟩⟩
          · rw [h2] at hO; cases hO; exact ⟨rfl, by omega⟩
          · rw [h2] at hO; cases hO
  have e00 : (0 : Int32).toNatClampNeg = 0 := rfl
  have eb : vp_nar .boolean (0 : Int32) = 0 := rfl
  refine v_X5_compile (d := d + 3) (Ru_of hb) ?_
  rw [e00, eb]
  have wm : WT (uI (uI (uI (uI (uI (uI m b0 4 (0 : Int32)) b0 5 (0 : Int32)) b0 6 (0 : Int32)) b0 7 (0 : Int32)) b0 8 (1 : Int32)) (b0 + 4) 0 (0 : Int32)) := wRf hb (wR_n hb (wR_n hb (wR_6 hb (wR_5 hb (wR_4 hb wt (by decide) (by decide)) (by decide) (by decide)) (by decide) (by decide)) (Or.inl rfl)) (Or.inr rfl))
  have fm : Fx (RB b0) m (uI (uI (uI (uI (uI (uI m b0 4 (0 : Int32)) b0 5 (0 : Int32)) b0 6 (0 : Int32)) b0 7 (0 : Int32)) b0 8 (1 : Int32)) (b0 + 4) 0 (0 : Int32)) := fRa hb (fR hb (fR hb (fR hb (fR hb (fR hb Fx.rf (by omega)) (by omega)) (by omega)) (by omega)) (by omega)) (Or.inr (Or.inr rfl))
  have C0 : RX b0 ((true, 0, [false]), [], []) (uI (uI (uI (uI (uI (uI m b0 4 (0 : Int32)) b0 5 (0 : Int32)) b0 6 (0 : Int32)) b0 7 (0 : Int32)) b0 8 (1 : Int32)) (b0 + 4) 0 (0 : Int32)) := ⟨(u_ne (by omega)).trans u_eq, (u_ne (by omega)).trans ((u_ne (by omega)).trans u_eq), by decide, fun z => absurd z (by decide), ⟨(u_ne (by omega)).trans ((u_ne (by omega)).trans ((u_ne (by omega)).trans ((u_ne (by omega)).trans ((u_ne (by omega)).trans u_eq)))), fun i hi => absurd hi (Nat.not_lt_zero i), (u_ne (by omega)).trans ((u_ne (by omega)).trans ((u_ne (by omega)).trans ((u_ne (by omega)).trans u_eq))), fun i hi => absurd hi (Nat.not_lt_zero i)⟩, 0, rfl, by decide, (u_ne (by omega)).trans ((u_ne (by omega)).trans ((u_ne (by omega)).trans u_eq)), fun i hi => by
    have : i = 0 := by omega
    subst this
    exact u_eq⟩
  generalize uI (uI (uI (uI (uI (uI m b0 4 (0 : Int32)) b0 5 (0 : Int32)) b0 6 (0 : Int32)) b0 7 (0 : Int32)) b0 8 (1 : Int32)) (b0 + 4) 0 (0 : Int32) = m1 at wm fm C0 ⊢
  have h11 : m1.1 1 1 = nI t := (fm.at (a := 1) (k := 1) (by unfold RB; omega)).trans ht
  rw [h11]
  refine ⟨fun _ => ?_, fun q => absurd ((nI_eq (a := t) (b := 0) (by omega) (by decide)).mp q) ht0⟩
  rw [minT_40 ht80]
  exact L 81 0 ((true, 0, [false]), [], []) m1 (by omega) (Nat.zero_le _) (Nat.le_refl _) wm fm C0 hO0
end RCV
end
section
section RCW
variable {ad : Nat → Nat} {d b0 : Nat} {m m0 : Wm}
/-- the rule in force P, the other one Q -/
def RuR (m : Wm) (P Q : Nat) : Prop := m.2.2 3 1 = some P ∧ m.2.2 3 2 = some Q ∧ ((P = 5 ∧ Q = 10) ∨ (P = 10 ∧ Q = 5))
/-- what the class's rule() answers by O, and where it leaves the code -/
def ruC (m : Wm) (P Q t : Nat) (O : Nat ⊕ XS) (r : Option Value) (m' : Wm) : Prop := WT m' ∧ Fx (RS [0, 1]) m m' ∧ m'.1 1 1 = 0 ∧
  ((t = 0 ∧ r = some (.int 0) ∧ RuR m' Q P ∧ CodeX Q [] m') ∨
   (t ≠ 0 ∧ (∀ q, O = .inl q → r = some (.int (-1 - nI q)) ∧ RuR m' P Q ∧ ∀ b k, P ≤ b → b ≤ P + 4 → m'.1 b k = m.1 b k) ∧
     ∀ S, O = .inr S → r = some (.int 0) ∧ RuR m' Q P ∧ CodeX Q (relL 1 S.2.2 S.2.1).1 m' ∧ (relL 1 S.2.2 S.2.1).1 ≠ []))
theorem uR_at {a k : Nat} {o : Option Nat} : (uR m a k o).2.2 a k = o := if_pos ⟨rfl, rfl⟩
theorem uR_an {a k b j : Nat} {o : Option Nat} (h : ¬ (b = a ∧ j = k)) : (uR m a k o).2.2 b j = m.2.2 b j := if_neg h
theorem e_ruleC {t P Q : Nat} (wt : WT m) (hR : RuR m P Q) (ht : m.1 1 1 = nI t) (ht80 : t ≤ 80) (hch : ∀ k, k < t → (m.1 2 k).toInt ≤ 255) : Ct ad μX11_rule (d + 5) [.ref (ad 0)] m (ruC m P Q t (MO xst xok (m.1 2) (decide (40 < t)) (minT t 40) 0 ((true, 0, [false]), [], []))) := by
  generalize hO : MO xst xok (m.1 2) (decide (40 < t)) (minT t 40) 0 ((true, 0, [false]), [], []) = O
  obtain ⟨e1, e2, hPQ⟩ := hR
  have q1 : P = 5 ∨ P = 10 := by omega
  have q2 : Q = 5 ∨ Q = 10 := by omega
  have n3 : ∀ k, ¬ RB Q 3 k := fun k => by unfold RB; omega
  have hQP : (Q = 5 ∧ P = 10) ∨ (Q = 10 ∧ P = 5) := by omega
  have nP : ∀ b k, P ≤ b → b ≤ P + 4 → ¬ RB Q b k := fun b k h1 h2 => by unfold RB; omega
  have nQ : ∀ j k, ¬ (Q + j = 1 ∧ k = (1 : Nat)) := fun j k => by omega
  have nb : ∀ b k, P ≤ b → ¬ (b = 1 ∧ k = (1 : Nat)) := fun b k h1 => by omega
  have FIN : ∀ (v3 : Int32) (m2 : Wm), WT m2 → Fx (RB Q) m m2 → ((v3 = -1 ∧ ((t = 0 ∧ CodeX Q [] m2) ∨ (t ≠ 0 ∧ ∃ S, O = .inr S ∧ CodeX Q (relL 1 S.2.2 S.2.1).1 m2 ∧ (relL 1 S.2.2 S.2.1).1 ≠ []))) ∨ (t ≠ 0 ∧ ∃ q, O = .inl q ∧ q ≤ 40 ∧ v3 = nI q)) →
      ∃ v : Int32, some (Value.int v3) = some (.int v) ∧ ((v = (-1 : Int32) → (∃ r4, (uI m2 1 1 (0 : Int32)).2.2 3 1 = some r4 ∧ Ru r4 ∧ (∃ r5, (uI m2 1 1 (0 : Int32)).2.2 3 2 = some r5 ∧ Ru r5 ∧ ruC m P Q t O (some (.int (0 : Int32))) (uR (uR (uI m2 1 1 (0 : Int32)) 3 1 (some r5)) 3 2 (some r4))))) ∧ (¬ v = (-1 : Int32) → ruC m P Q t O (some (.int ((-1 : Int32) - v))) (uI m2 1 1 (0 : Int32)))) := by
    intro v3 m2 w2 f2 h
    have w10 : WT (uI m2 1 1 (0 : Int32)) := w2.t rfl (by decide) (by decide)
    have f2' : Fx (RS [0, 1]) m m2 := (Fx.rf (S := RS [0, 1])).tr f2 (fun a k h => RS_sub (l1 := [1]) rfl a k (RB_1 q2 a k h))
    have f10 : Fx (RS [0, 1]) m (uI m2 1 1 (0 : Int32)) := f2'.i rfl
    have r1 : m2.2.2 3 1 = some P := ((f2 3 1 (n3 1)).2.2).trans e1
    have r2 : m2.2.2 3 2 = some Q := ((f2 3 2 (n3 2)).2.2).trans e2
    refine ⟨v3, rfl, fun hv => ⟨P, r1, Ru_of q1, Q, r2, Ru_of q2, (w10.rR (by decide) q2).rR (by decide) q1, (f10.r rfl).r rfl, rfl, ?_⟩, fun hv => ⟨w10, f10, rfl, ?_⟩⟩
    · have hR2 : RuR (uR (uR (uI m2 1 1 (0 : Int32)) 3 1 (some Q)) 3 2 (some P)) Q P := ⟨(uR_an (fun q => absurd q.2 (by decide))).trans uR_at, uR_at, hQP⟩
      rcases h with ⟨-, ⟨h0, hX⟩ | ⟨h0, S, hS, hX, hn⟩⟩ | ⟨h0, q, hq, q40, e⟩
      · exact Or.inl ⟨h0, rfl, hR2, (if_neg (nQ 0 4)).trans hX.1, hX.2.1.k (fun k => if_neg (nQ 1 k)), hX.2.2⟩
      · refine Or.inr ⟨h0, fun q e => (by rw [hS] at e; cases e), fun S' e => ?_⟩
        rw [hS] at e
        cases e
        exact ⟨rfl, hR2, ⟨(if_neg (nQ 0 4)).trans hX.1, hX.2.1.k (fun k => if_neg (nQ 1 k)), hX.2.2⟩, hn⟩
      · exact absurd (hv.symm.trans e) (m1_ne q (Nat.lt_of_le_of_lt q40 (by decide)))
    · rcases h with ⟨h0, -⟩ | ⟨h0, q, hq, q40, e⟩
      · exact absurd h0 hv
      · refine Or.inr ⟨h0, fun q' e' => ?_, fun S e' => (by rw [hq] at e'; cases e')⟩
        rw [hq] at e'
        cases e'
        exact ⟨by rw [e], ⟨r1, r2, hPQ⟩, fun b k h1 h2 => (if_neg (nb b k h1)).trans (f2.at (nP b k h1 h2))⟩
  refine v_X11_rule (d := d + 4) ⟨Q, e2, Ru_of q2, ?_⟩
  by_cases ht0 : t = 0
  · subst ht0
    have e00 : (0 : Int32).toNatClampNeg = 0 := rfl
    have eb : vp_nar .boolean (0 : Int32) = 0 := rfl
    refine v_X5_compile (d := d + 3) (Ru_of q2) ⟨fun c => absurd ?_ c, fun _ => FIN (-1) _ ?_ ?_ (Or.inl ⟨rfl, Or.inl ⟨rfl, ?_, fun i hi => absurd hi (Nat.not_lt_zero i), by decide⟩⟩)⟩
    · have h : ∀ k, (uI (uI (uI (uI (uI (uI m Q 4 (0 : Int32)) Q 5 (0 : Int32)) Q 6 (0 : Int32)) Q 7 (0 : Int32)) Q 8 (1 : Int32)) (Q + 4) (0 : Int32).toNatClampNeg (vp_nar .boolean (0 : Int32))).1 1 k = m.1 1 k := fun k => (u_ne (by omega)).trans ((u_ne (by omega)).trans ((u_ne (by omega)).trans ((u_ne (by omega)).trans ((u_ne (by omega)).trans (u_ne (by omega))))))
      exact (h 1).trans ht
    · exact wRf q2 (wR_n q2 (wR_n q2 (wR_6 q2 (wR_5 q2 (wR_4 q2 wt (by decide) (by decide)) (by decide) (by decide)) (by decide) (by decide)) (Or.inl rfl)) (Or.inr rfl))
    · exact fRa q2 (fR q2 (fR q2 (fR q2 (fR q2 (fR q2 Fx.rf (by omega)) (by omega)) (by omega)) (by omega)) (by omega)) (Or.inr (Or.inr rfl))
    · exact (u_ne (by omega)).trans ((u_ne (by omega)).trans ((u_ne (by omega)).trans ((u_ne (by omega)).trans ((u_ne (by omega)).trans u_eq))))
  · refine (e_comp5 (d := d) q2 wt ht ht80 ht0 hch).to ?_
    rintro r m2 ⟨w2, f2, hq, hS⟩
    rw [hO] at hq hS
    cases O with
    | inl q =>
      obtain ⟨rfl, q40⟩ := hq q rfl
      exact FIN _ m2 w2 f2 (Or.inr ⟨ht0, q, rfl, q40, rfl⟩)
    | inr S =>
      obtain ⟨rfl, hX, hl, hn⟩ := hS S rfl
      exact FIN _ m2 w2 f2 (Or.inl ⟨rfl, Or.inr ⟨ht0, S, rfl, ⟨hX.1, hX.2.1, hl⟩, hn⟩⟩)
end RCW
/-! a rule's value leans on the signs that are read alone -/
section TCH
variable {tx tb : Nat → Int32} {e : Nat} {lt : Int32 → Int32}
theorem hr_ch (h : ∀ k, k < e → tx k = tb k) : hrF tx e = hrF tb e := funext fun p => by
  unfold hrF
  by_cases hp : p < e
  · rw [if_pos hp, if_pos hp, h p hp]
  · rw [if_neg hp, if_neg hp]
theorem pass_ch (h : hrF tx e = hrF tb e) : passF tx e = passF tb e := funext fun c => funext fun s => by unfold passF; rw [h]
theorem need_ch (h : hrF tx e = hrF tb e) : needF tx e = needF tb e := funext fun c => funext fun s => by unfold needF; rw [pass_ch h]
theorem num_ch (h : hrF tx e = hrF tb e) : ∀ k v p, numF tx e k v p = numF tb e k v p := by
  intro k
  induction k with
  | zero => intro v p; rfl
  | succ k ih =>
    intro v p
    show (if 48 ≤ hrF tx e p ∧ hrF tx e p ≤ 57 then numF tx e k (10 * v + hrF tx e p - 48) (p + 1) else (v, p)) = (if 48 ≤ hrF tb e p ∧ hrF tb e p ≤ 57 then numF tb e k (10 * v + hrF tb e p - 48) (p + 1) else (v, p))
    rw [h, ih]
theorem loop_ch {c1 c2 : Int32} {op : Bool → Int32 → Int32 → Int32} {g : Sp → Int32 × Sp} (h : hrF tx e = hrF tb e) : ∀ k acc s, loopF tx e c1 c2 op g k acc s = loopF tb e c1 c2 op g k acc s := by
  intro k
  induction k with
  | zero => intro acc s; rfl
  | succ k ih =>
    intro acc s
    show (if s.2 = -1 ∧ (hrF tx e s.1 = c1 ∨ hrF tx e s.1 = c2) then loopF tx e c1 c2 op g k (op (decide (hrF tx e s.1 = c1)) acc (g (s.1 + 1, s.2)).1) (g (s.1 + 1, s.2)).2 else (acc, s)) = (if s.2 = -1 ∧ (hrF tb e s.1 = c1 ∨ hrF tb e s.1 = c2) then loopF tb e c1 c2 op g k (op (decide (hrF tb e s.1 = c1)) acc (g (s.1 + 1, s.2)).1) (g (s.1 + 1, s.2)).2 else (acc, s))
    rw [h, ih]
theorem prF_ch (h0 : ∀ k, k < e → tx k = tb k) : ∀ n kd dp s, prF tx e lt n kd dp s = prF tb e lt n kd dp s := by
  have h := hr_ch h0
  intro n
  induction n with
  | zero => intro kd dp s; rfl
  | succ n ih =>
    have E : ∀ kd dp, prF tx e lt n kd dp = prF tb e lt n kd dp := fun kd dp => funext (ih kd dp)
    intro kd dp s
    match kd with
    | 0 =>
      show thgF tx e lt (prF tx e lt n 0 dp) (prF tx e lt n 3 (dp + 1)) dp s = thgF tb e lt (prF tb e lt n 0 dp) (prF tb e lt n 3 (dp + 1)) dp s
      rw [E, E]
      unfold thgF
      rw [pass_ch h, need_ch h, num_ch h, h]
    | 1 =>
      show loopF tx e 42 47 opM (prF tx e lt n 0 dp) 81 (prF tx e lt n 0 dp s).1 (prF tx e lt n 0 dp s).2 = loopF tb e 42 47 opM (prF tb e lt n 0 dp) 81 (prF tb e lt n 0 dp s).1 (prF tb e lt n 0 dp s).2
      rw [E, loop_ch h]
    | 2 =>
      show loopF tx e 43 45 opA (prF tx e lt n 1 dp) 81 (prF tx e lt n 1 dp s).1 (prF tx e lt n 1 dp s).2 = loopF tb e 43 45 opA (prF tb e lt n 1 dp) 81 (prF tb e lt n 1 dp s).1 (prF tb e lt n 1 dp s).2
      rw [E, loop_ch h]
    | k + 3 =>
      show cmpF tx e (prF tx e lt n 2 dp) (prF tx e lt n 2 dp s) = cmpF tb e (prF tb e lt n 2 dp) (prF tb e lt n 2 dp s)
      rw [E]
      unfold cmpF
      rw [pass_ch h]
end TCH
end
section
/-! THE RULE: both sides -/
/-- the rule in force is the same on both sides: the class's code comes to what the model's text comes to -/
def RuK (m : Wm) : Prop := ∃ P Q, RuR m P Q ∧ ∃ cl z, CodeX P cl m ∧ m.1 187 27 = nI z ∧ z ≤ 40 ∧ ((z = 0 ∧ cl = []) ∨ (z ≠ 0 ∧ cl ≠ [] ∧ ∀ lt, evR lt cl [] = some [(prF (m.1 200) z lt 164 3 0 (0, -1)).1]))
/-- from K to K' over rule() -/
def RLH (K K' : Wm → Prop) : Prop := ∀ m m1 m2, InvK K m → WT m1 → WT m2 → Fx (RS [0, 1]) m m1 → Fx (RS [20, 21, 22, 48, 28]) m1 m2 → (RuK m → RuK m2) → K' m2
theorem rg_1 {b0 j k : Nat} (hb : b0 = 5 ∨ b0 = 10) (hj : j = 0 ∨ j = 1) : rg (b0 + j) k = 1 := by
  rcases hb with rfl | rfl <;> rcases hj with rfl | rfl <;> rfl
theorem byte_id {x : Int32} (h0 : 0 ≤ x.toInt) (h1 : x.toInt ≤ 127) : vp_nar .byte x = x := by
  obtain ⟨j, hj, rfl⟩ := zn_of h0
  rw [nI_toInt hj] at h1
  have h : ∀ k : Fin 128, vp_nar .byte (nI k.val) = nI k.val := by decide +kernel
  exact h ⟨j, by omega⟩
/-- a text that is taken has signs below 128 alone -/
theorem MO_all {tx : Nat → Int32} {big : Bool} {S' : XS} : ∀ (k p : Nat) (S : XS), MO xst xok tx big k p S = .inr S' → ∀ j, p ≤ j → j < p + k → 0 ≤ (tx j).toInt ∧ (tx j).toInt ≤ 127 := by
  intro k
  induction k with
  | zero => intro p S _ j h1 h2; omega
  | succ k ih =>
    intro p S h j h1 h2
    cases e : xst (tx p) S with
    | none => rw [MO_f e] at h; cases h
    | some S2 =>
      rw [MO_s e] at h
      by_cases hj : j = p
      · subst hj
        by_cases q : (tx j).toInt < 0 ∨ 128 ≤ (tx j).toInt
        · obtain ⟨⟨w, dg, fs⟩, cd, wt⟩ := S
          rw [xst_none (rst_no q)] at e
          cases e
        · omega
      · exact ih (p + 1) S2 h j (by omega) (by omega)
theorem xok_1 {dg : Nat} {f : Bool} {cd wt : List Int32} : xok ((false, dg, [f]), cd, wt) = true := decide_eq_true (p := false = false ∧ [f].length = 1) ⟨rfl, rfl⟩
section RUB
variable {ad : Nat → Nat} {d : Nat} {K K' : Wm → Prop}
theorem os_rule (hRu : ∀ m, K m → ∃ P Q, RuR m P Q) (hR : RLH K K') : Both ad d μX11_rule μX12_rule [] (InvK K) (InvK K') := fun m I => by
  have IK := I
  obtain ⟨w, I1, k0⟩ := I
  have I0 := I1
  obtain ⟨h1, h2, h3, h4, h5⟩ := I0
  obtain ⟨P, Q, hPQ⟩ := hRu m k0
  have hP : P = 5 ∨ P = 10 := by have := hPQ.2.2; omega
  have hQ : Q = 5 ∨ Q = 10 := by have := hPQ.2.2; omega
  obtain ⟨t, et, -, -, t80, -⟩ := w.nat (a := 1) (k := 1) rfl (by decide)
  have ht14 : m.1 187 14 = nI t := h2.1.symm.trans et
  have hlt : ∀ k, k < t → k < (m.1 1 1).toInt := fun k hk => by rw [et, nI_toInt (by omega)]; omega
  have hch : ∀ k, k < t → (m.1 2 k).toInt ≤ 255 := fun k hk => by
    rcases h2.2 k (hlt k hk) with ⟨a1, a2, a3⟩ | ⟨-, -, a⟩
    · rw [a3]; omega
    · exact a
  have e40 : minT t 40 ≤ 40 := by unfold minT; split <;> omega
  have ett : minT t 40 ≤ t := by unfold minT; split <;> omega
  refine (e_ruleC (d := d + 295) w hPQ et (by omega) hch).to ?_
  rintro r m1 ⟨w1, f1, z11, hC⟩
  have g195 : m1.1 195 = m.1 195 := funext fun k => f1.at (nRS (ρ := 21) rfl rfl)
  have k14 : m1.1 187 14 = nI t := (f1.at (nRS (ρ := 21) rfl rfl)).trans ht14
  have hM := e_ruleM (ad := ad) (d := d + 132) w1 k14 (by omega)
  rw [g195] at hM
  have D0 := fun lt O hO => (des_rel (lt := lt) (tx := m.1 195) (e := minT t 40) (big := decide (40 < t)) (by omega) 164).2.2.2 0 0 [] [] [] O (by decide) rfl (Nat.zero_le _) (by omega) trivial hO
  have s0 : ∃ s, (prF (m.1 195) (minT t 40) (fun _ => 0) 164 3 0 (0, -1)).2 = s := ⟨_, rfl⟩
  obtain ⟨s, hs⟩ := s0
  rw [hs] at hM
  have fin : ∀ v : Int32, r = some (.int v) → (∀ r2 m2, ruM m1 t s r2 m2 → r2 = some (.int v) ∧ (RuK m → RuK m2)) → ∃ v : Int32, r = some (.int v) ∧ Ct ad μX12_rule (d + 300) [.ref (ad 187)] m1 (fun r m2 => r = some (.int v) ∧ InvK K' m2) := fun v hr h => ⟨v, hr, hM.to (fun r2 m2 hh => by
    have e11 : m2.1 1 1 = 0 := (hh.2.1.at (nRS (ρ := 0) rfl rfl)).trans z11
    exact ⟨(h r2 m2 hh).1, hh.1, ⟨(h1.fx f1 rfl).fx hh.2.1 rfl, TXI.zero (by rw [e11]; rfl) hh.2.2.1, IV.sd I1 f1 hh.2.1 rfl rfl⟩, hR m m1 m2 IK w1 hh.1 f1 hh.2.1 (h r2 m2 hh).2⟩)⟩
  -- the model's side of a rule that is kept
  have keep : ∀ m2, RuR m1 P Q → (∀ b k, P ≤ b → b ≤ P + 4 → m1.1 b k = m.1 b k) → Fx (RS [20, 21, 22, 28]) m1 m2 → RuK m → RuK m2 := fun m2 hR1 hc f2 hk => by
    obtain ⟨P', Q', hR', cl, z, hX, h27, hz, hv⟩ := hk
    have hPP : P' = P := Option.some.inj (hR'.1.symm.trans hPQ.1)
    subst hPP
    have g1 : ∀ j k, j = 0 ∨ j = 1 → m2.1 (P' + j) k = m.1 (P' + j) k := fun j k hj => (f2.at (nRS (ρ := 1) rfl (rg_1 hP hj))).trans (hc _ k (by omega) (by omega))
    have g200 : m2.1 200 = m.1 200 := funext fun k => (f2.at (nRS (ρ := 48) rfl rfl)).trans (f1.at (nRS (ρ := 48) rfl rfl))
    refine ⟨P', Q, ⟨((f2 3 1 (nRS (ρ := 1) rfl rfl)).2.2).trans hR1.1, ((f2 3 2 (nRS (ρ := 1) rfl rfl)).2.2).trans hR1.2.1, hPQ.2.2⟩, cl, z, ⟨(g1 0 4 (Or.inl rfl)).trans hX.1, hX.2.1.k (fun k => g1 1 k (Or.inr rfl)), hX.2.2⟩, ((f2.at (nRS (ρ := 48) rfl rfl)).trans (f1.at (nRS (ρ := 48) rfl rfl))).trans h27, hz, ?_⟩
    rw [g200]
    exact hv
  -- and of a new one
  have new : ∀ (cl : List Int32) (z : Nat) (m2 : Wm), RuR m1 Q P → CodeX Q cl m1 → Fx (RS [20, 21, 22, 48, 28]) m1 m2 → m2.1 187 27 = nI z → z ≤ 40 → (∀ k, k < z → m2.1 200 k = vp_nar .byte (m1.1 195 k)) → (∀ k, k < z → 0 ≤ (m.1 195 k).toInt ∧ (m.1 195 k).toInt ≤ 127) → ((z = 0 ∧ cl = []) ∨ (z ≠ 0 ∧ cl ≠ [] ∧ ∀ lt, evR lt cl [] = some [(prF (m.1 195) z lt 164 3 0 (0, -1)).1])) → RuK m2 := fun cl z m2 hR1 hX f2 h27 hz h200 hby hv => by
    have g1 : ∀ j k, j = 0 ∨ j = 1 → m2.1 (Q + j) k = m1.1 (Q + j) k := fun j k hj => f2.at (nRS (ρ := 1) rfl (rg_1 hQ hj))
    refine ⟨Q, P, ⟨((f2 3 1 (nRS (ρ := 1) rfl rfl)).2.2).trans hR1.1, ((f2 3 2 (nRS (ρ := 1) rfl rfl)).2.2).trans hR1.2.1, hR1.2.2⟩, cl, z, ⟨(g1 0 4 (Or.inl rfl)).trans hX.1, hX.2.1.k (fun k => g1 1 k (Or.inr rfl)), hX.2.2⟩, h27, hz, ?_⟩
    rcases hv with hv | ⟨v1, v2, v3⟩
    · exact Or.inl hv
    · refine Or.inr ⟨v1, v2, fun lt => ?_⟩
      rw [v3 lt, prF_ch (tx := m2.1 200) (tb := m.1 195) (fun k hk => (h200 k hk).trans ((congrArg (vp_nar .byte) (congrFun g195 k)).trans (byte_id (hby k hk).1 (hby k hk).2)))]
  rcases hC with ⟨h0, hr, hR1, hX⟩ | ⟨h0, hq, hS⟩
  · exact fin 0 hr (fun r2 m2 hh => by
      obtain ⟨a1, a2, a3⟩ := hh.2.2.2.2.2 (Or.inl h0)
      exact ⟨a1, fun _ => new [] t m2 hR1 hX hh.2.1 a2 (by omega) a3 (fun k hk => by omega) (Or.inl ⟨h0, rfl⟩)⟩)
  · have eO : MO xst xok (m.1 2) (decide (40 < t)) (minT t 40) 0 ((true, 0, [false]), [], []) = MO xst xok (m.1 195) (decide (40 < t)) (minT t 40) 0 ((true, 0, [false]), [], []) := MO_ch (fun _ _ S h => xst_ch S h) (fun j hj => h2.2 j (hlt j (by omega)))
    rw [eO] at hq hS
    generalize hO : MO xst xok (m.1 195) (decide (40 < t)) (minT t 40) 0 ((true, 0, [false]), [], []) = O at hq hS
    have D := D0 (fun _ => 0) O hO
    have D1 := fun lt => D0 lt O hO
    generalize prF (m.1 195) (minT t 40) (fun _ => 0) 164 3 0 (0, -1) = R at hs D
    obtain ⟨v0, p, u⟩ := R
    have hs' : (p, u) = s := hs
    subst hs'
    by_cases hu : u = -1
    · obtain ⟨a, b, dg, fs, cd, wt, ⟨f, rfl⟩, cv, c2, c3, c4⟩ := D.2 hu
      dsimp only at a b c2 c3 c4 cv
      by_cases hp : p < t
      · have hOp : O = .inl p := by
          rw [← c4]
          by_cases hpe : p < minT t 40
          · rw [ep_s hpe]
            refine MO_f ?_
            by_cases c41 : m.1 195 p = 41
            · rw [c41]; exact xst_none rst_p1
            · exact xst_none (rst_end (c2 hpe) (c3 hpe) c41)
          · rw [show minT t 40 - p = 0 by omega]
            refine MO_n (fun z => ?_)
            have hb := of_decide_eq_false z.1
            have : minT t 40 = t := by
              unfold minT
              split
              · rfl
              · omega
            omega
        obtain ⟨y1, y2, y3⟩ := hq p hOp
        exact fin (-1 - nI p) y1 (fun r2 m2 hh => by
          obtain ⟨a1, a2⟩ := hh.2.2.2.2.1 h0 hu hp
          exact ⟨a1, keep m2 y2 y3 a2⟩)
      · have hpe : ¬ p < minT t 40 := by omega
        have hb : decide (40 < t) = false := decide_eq_false (fun z => by omega)
        have hOr : O = .inr ((false, dg, [f]), cd, wt) := by
          rw [← c4, show minT t 40 - p = 0 by omega]
          exact MO_e ⟨hb, xok_1⟩
        obtain ⟨y1, y2, y3, y4⟩ := hS _ hOr
        dsimp only at y3 y4
        have h40 : minT t 40 = t := by unfold minT; split <;> omega
        refine fin 0 y1 (fun r2 m2 hh => ?_)
        obtain ⟨a1, a2, a3⟩ := hh.2.2.2.2.2 (Or.inr ⟨hu, hp⟩)
        refine ⟨a1, fun _ => new _ t m2 y2 y3 hh.2.1 a2 (by omega) a3 (fun k hk => MO_all _ _ _ (hO.trans hOr) k (Nat.zero_le _) (by omega)) (Or.inr ⟨h0, y4, fun lt => ?_⟩)⟩
        -- by every reading of the letters the run is the same one
        have E := D1 lt
        rw [← h40]
        generalize prF (m.1 195) (minT t 40) lt 164 3 0 (0, -1) = R' at E ⊢
        obtain ⟨v', p', u'⟩ := R'
        by_cases hu' : u' = -1
        · obtain ⟨a', b', dg', fs', cd', wt', ⟨f', rfl⟩, cv', c2', c3', c4'⟩ := E.2 hu'
          dsimp only at a' b' c2' c3' c4' cv' ⊢
          rw [hOr] at c4'
          have hp' : ¬ p' < minT t 40 := fun hlt' => by
            rw [ep_s hlt'] at c4'
            by_cases c41 : m.1 195 p' = 41
            · rw [MO_f (by rw [c41]; exact xst_none rst_p1)] at c4'; cases c4'
            · rw [MO_f (xst_none (rst_end (c2' hlt') (c3' hlt') c41))] at c4'; cases c4'
          rw [show minT t 40 - p' = 0 by omega, MO_e ⟨hb, xok_1⟩] at c4'
          have e1 := Sum.inr.inj c4'
          have ecd : cd' = cd := congrArg (fun X : XS => X.2.1) e1
          have ewt : wt' = wt := congrArg (fun X : XS => X.2.2) e1
          obtain ⟨sg, pd, g1, g2, g3, g4⟩ := cv'
          rw [ecd] at g1
          rw [ewt] at g2
          rw [g1, g2, relL_fl pd sg [] [] g3 trivial]
          dsimp only
          rw [List.append_nil]
          exact g4 []
        · obtain ⟨q, hq', e1, e2⟩ := E.1 hu'
          rw [hOr] at e1
          cases e1
    · obtain ⟨q, hq', e1, e2⟩ := D.1 hu
      have e2' : u = nI q := e2
      obtain ⟨y1, y2, y3⟩ := hq q e1
      exact fin (-1 - nI q) y1 (fun r2 m2 hh => by
        obtain ⟨a1, a2⟩ := hh.2.2.2.1 h0 hu
        exact ⟨by rw [a1]; show some (Value.int (-1 - u)) = _; rw [e2'], keep m2 y2 y3 a2⟩)
end RUB
end
