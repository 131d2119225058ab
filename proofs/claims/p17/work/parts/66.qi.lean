/-! THE RULE'S TEXT, SIGN BY SIGN: is a thing wanted, how many digits stand, is there a comparison (this level first) -/
abbrev RuS : Type := Bool × Nat × List Bool
abbrev isDg (c : Int32) : Prop := 48 ≤ c ∧ c ≤ 57
abbrev isCm (c : Int32) : Prop := c = 60 ∨ c = 61 ∨ c = 62
abbrev isJn (c : Int32) : Prop := c = 42 ∨ c = 43 ∨ c = 45 ∨ c = 47
def rTop : List Bool → Option RuS
  | false :: r => some (true, 0, true :: r)
  | _ => none
def rPop : List Bool → Option RuS
  | _ :: g :: r => some (false, 0, g :: r)
  | _ => none
def rst (c : Int32) : RuS → Option RuS
  | (w, dg, fs) =>
    if isDg c then (if w = true then some (false, 1, fs) else if dg = 0 ∨ dg = 3 then none else some (false, dg + 1, fs))
    else if w = true then (if c = 45 then some (true, 0, fs) else if c = 40 then (if fs.length ≤ 4 then some (true, 0, false :: fs) else none) else if isLt c then some (false, 0, fs) else none)
    else if c = 41 then rPop fs
    else if isCm c then rTop fs
    else if isJn c then some (true, 0, fs)
    else none
def rok : RuS → Bool
  | (w, _, fs) => decide (w = false ∧ fs.length = 1)
section RST
variable {c : Int32} {dg : Nat} {fs r : List Bool} {f g : Bool}
theorem rst_d (h : isDg c) : rst c (true, dg, fs) = some (false, 1, fs) := by
  unfold rst; dsimp only; rw [if_pos h, if_pos rfl]
theorem rst_dn (h : isDg c) (h0 : dg = 0 ∨ dg = 3) : rst c (false, dg, fs) = none := by
  unfold rst; dsimp only; rw [if_pos h, if_neg (by decide), if_pos h0]
theorem rst_ds (h : isDg c) (h0 : ¬ (dg = 0 ∨ dg = 3)) : rst c (false, dg, fs) = some (false, dg + 1, fs) := by
  unfold rst; dsimp only; rw [if_pos h, if_neg (by decide), if_neg h0]
theorem rst_m : rst 45 (true, dg, fs) = some (true, 0, fs) := by
  unfold rst; dsimp only; rw [if_neg (by decide), if_pos rfl, if_pos rfl]
theorem rst_o (h : fs.length ≤ 4) : rst 40 (true, dg, fs) = some (true, 0, false :: fs) := by
  unfold rst; dsimp only; rw [if_neg (by decide), if_pos rfl, if_neg (by decide), if_pos rfl, if_pos h]
theorem rst_on (h : ¬ fs.length ≤ 4) : rst 40 (true, dg, fs) = none := by
  unfold rst; dsimp only; rw [if_neg (by decide), if_pos rfl, if_neg (by decide), if_pos rfl, if_neg h]
theorem isLt_ge (h : isLt c) : 97 ≤ c.toInt := by
  rcases h with h | rfl | rfl | rfl | rfl | rfl | rfl
  · exact z_le h.1
  all_goals decide
theorem rst_l (h : isLt c) : rst c (true, dg, fs) = some (false, 0, fs) := by
  have h9 := isLt_ge h
  have n1 : ¬ isDg c := fun q => by
    have q2 := z_le q.2
    have z : (57 : Int32).toInt = 57 := rfl
    omega
  have n2 : ¬ c = 45 := fun q => by rw [q] at h9; exact absurd h9 (by decide)
  have n3 : ¬ c = 40 := fun q => by rw [q] at h9; exact absurd h9 (by decide)
  unfold rst; dsimp only; rw [if_neg n1, if_pos rfl, if_neg n2, if_neg n3, if_pos h]
theorem rst_wn (h1 : ¬ isDg c) (h2 : c ≠ 45) (h3 : c ≠ 40) (h4 : ¬ isLt c) : rst c (true, dg, fs) = none := by
  unfold rst; dsimp only; rw [if_neg h1, if_pos rfl, if_neg h2, if_neg h3, if_neg h4]
theorem rst_p : rst 41 (false, dg, f :: g :: r) = some (false, 0, g :: r) := by
  unfold rst; dsimp only; rw [if_neg (by decide), if_neg (by decide), if_pos rfl]; rfl
theorem rst_p1 : rst 41 (false, dg, [f]) = none := by
  unfold rst; dsimp only; rw [if_neg (by decide), if_neg (by decide), if_pos rfl]; rfl
theorem rst_c (h : isCm c) : rst c (false, dg, false :: r) = some (true, 0, true :: r) := by
  rcases h with rfl | rfl | rfl <;> (unfold rst; dsimp only; rw [if_neg (by decide), if_neg (by decide), if_neg (by decide), if_pos (by decide)]; rfl)
theorem rst_cn (h : isCm c) : rst c (false, dg, true :: r) = none := by
  rcases h with rfl | rfl | rfl <;> (unfold rst; dsimp only; rw [if_neg (by decide), if_neg (by decide), if_neg (by decide), if_pos (by decide)]; rfl)
theorem rst_j (h : isJn c) : rst c (false, dg, fs) = some (true, 0, fs) := by
  rcases h with rfl | rfl | rfl | rfl <;> (unfold rst; dsimp only; rw [if_neg (by decide), if_neg (by decide), if_neg (by decide), if_neg (by decide), if_pos (by decide)])
theorem rst_n (h1 : ¬ isDg c) (h2 : c ≠ 41) (h3 : ¬ isCm c) (h4 : ¬ isJn c) : rst c (false, dg, fs) = none := by
  unfold rst; dsimp only; rw [if_neg h1, if_neg (by decide), if_neg h2, if_neg h3, if_neg h4]
theorem rst_no {w : Bool} {x : Int32} (hx : x.toInt < 0 ∨ 128 ≤ x.toInt) : rst x (w, dg, fs) = none := by
  have z48 : (48 : Int32).toInt = 48 := rfl
  have z57 : (57 : Int32).toInt = 57 := rfl
  have z97 : (97 : Int32).toInt = 97 := rfl
  have z100 : (100 : Int32).toInt = 100 := rfl
  have ne : ∀ t : Int32, 0 ≤ t.toInt → t.toInt ≤ 127 → ¬ x = t := fun t h0 h1 q => by rw [q] at hx; omega
  have n1 : ¬ isDg x := fun q => by have := z_le q.1; have := z_le q.2; omega
  have nl : ¬ isLt x := by
    rintro (q | q | q | q | q | q | q)
    · have := z_le q.1; have := z_le q.2; omega
    all_goals exact ne _ (by decide) (by decide) q
  cases w with
  | true => exact rst_wn n1 (ne _ (by decide) (by decide)) (ne _ (by decide) (by decide)) nl
  | false =>
    refine rst_n n1 (ne _ (by decide) (by decide)) ?_ ?_
    · rintro (q | q | q) <;> exact ne _ (by decide) (by decide) q
    · rintro (q | q | q | q) <;> exact ne _ (by decide) (by decide) q
end RST
/-! with the code (last first) and what waits (latest first) -/
def rkN (c : Int32) : Nat := if c = 42 ∨ c = 47 then 3 else if c = 43 ∨ c = 45 then 2 else if isCm c then 1 else if c = 256 then 4 else 0
abbrev XS : Type := RuS × List Int32 × List Int32
def relL (r : Nat) : List Int32 → List Int32 → List Int32 × List Int32
  | [], cd => (cd, [])
  | x :: wt, cd => if rkN x < r then (cd, x :: wt) else relL r wt ((1000 + x) :: cd)
def digL (v : Int32) : List Int32 → List Int32
  | x :: r => (x * 10 + v) :: r
  | [] => []
def xcd (c : Int32) (w : Bool) (cd wt : List Int32) : List Int32 × List Int32 :=
  if isDg c then (if w = true then ((c - 48) :: cd, wt) else (digL (c - 48) cd, wt))
  else if w = true then (if c = 45 then (cd, 256 :: wt) else if c = 40 then (cd, 40 :: wt) else ((1000 + c) :: cd, wt))
  else if c = 41 then ((relL 1 wt cd).1, (relL 1 wt cd).2.tail)
  else ((relL (rkN c) wt cd).1, c :: (relL (rkN c) wt cd).2)
def xst (c : Int32) (X : XS) : Option XS := (rst c X.1).map (fun S => (S, xcd c X.1.1 X.2.1 X.2.2))
def xok (X : XS) : Bool := rok X.1
section XST
variable {c : Int32} {dg : Nat} {fs r : List Bool} {f g w : Bool} {S S' : RuS} {cd wt : List Int32}
theorem xst_of (h : rst c S = some S') : xst c (S, cd, wt) = some (S', xcd c S.1 cd wt) := by unfold xst; dsimp only; rw [h]; rfl
theorem xst_none (h : rst c S = none) : xst c (S, cd, wt) = none := by unfold xst; dsimp only; rw [h]; rfl
theorem xst_ch {b : Int32} (X : XS) (h : CH c b) : xst c X = xst b X := by
  rcases h with ⟨-, -, rfl⟩ | ⟨a1, a2, a3⟩
  · rfl
  · obtain ⟨⟨w, dg, fs⟩, cd, wt⟩ := X
    rw [xst_none (rst_no (Or.inr a2)), xst_none (rst_no (Or.inl a1))]
theorem xs_d (h : isDg c) : xst c ((true, dg, fs), cd, wt) = some ((false, 1, fs), (c - 48) :: cd, wt) := by
  rw [xst_of (rst_d h)]; unfold xcd; rw [if_pos h, if_pos rfl]
theorem xs_ds {x : Int32} (h : isDg c) (h0 : ¬ (dg = 0 ∨ dg = 3)) : xst c ((false, dg, fs), x :: cd, wt) = some ((false, dg + 1, fs), (x * 10 + (c - 48)) :: cd, wt) := by
  rw [xst_of (rst_ds h h0)]; unfold xcd; dsimp only; rw [if_pos h, if_neg (by decide)]; rfl
theorem xs_m : xst 45 ((true, dg, fs), cd, wt) = some ((true, 0, fs), cd, 256 :: wt) := by
  rw [xst_of rst_m]; unfold xcd; rw [if_neg (by decide), if_pos rfl, if_pos rfl]
theorem xs_o (h : fs.length ≤ 4) : xst 40 ((true, dg, fs), cd, wt) = some ((true, 0, false :: fs), cd, 40 :: wt) := by
  rw [xst_of (rst_o h)]; unfold xcd; rw [if_neg (by decide), if_pos rfl, if_neg (by decide), if_pos rfl]
theorem isLt_n (h : isLt c) : ¬ isDg c ∧ ¬ c = 45 ∧ ¬ c = 40 := by
  have h9 := isLt_ge h
  refine ⟨fun q => ?_, fun q => ?_, fun q => ?_⟩
  · have q2 := z_le q.2
    have z : (57 : Int32).toInt = 57 := rfl
    omega
  · rw [q] at h9; exact absurd h9 (by decide)
  · rw [q] at h9; exact absurd h9 (by decide)
theorem xs_l (h : isLt c) : xst c ((true, dg, fs), cd, wt) = some ((false, 0, fs), (1000 + c) :: cd, wt) := by
  obtain ⟨n1, n2, n3⟩ := isLt_n h
  rw [xst_of (rst_l h)]; unfold xcd; rw [if_neg n1, if_pos rfl, if_neg n2, if_neg n3]
theorem xs_p : xst 41 ((false, dg, f :: g :: r), cd, wt) = some ((false, 0, g :: r), (relL 1 wt cd).1, (relL 1 wt cd).2.tail) := by
  rw [xst_of rst_p]; unfold xcd; dsimp only; rw [if_neg (by decide), if_neg (by decide), if_pos rfl]
theorem jn_n (h : isJn c ∨ isCm c) : ¬ isDg c ∧ ¬ c = 41 := by
  rcases h with (rfl | rfl | rfl | rfl) | (rfl | rfl | rfl) <;> decide
theorem xs_j (h : isJn c) : xst c ((false, dg, fs), cd, wt) = some ((true, 0, fs), (relL (rkN c) wt cd).1, c :: (relL (rkN c) wt cd).2) := by
  obtain ⟨n1, n2⟩ := jn_n (Or.inl h)
  rw [xst_of (rst_j h)]; unfold xcd; dsimp only; rw [if_neg n1, if_neg (by decide), if_neg n2]
theorem xs_c (h : isCm c) : xst c ((false, dg, false :: r), cd, wt) = some ((true, 0, true :: r), (relL (rkN c) wt cd).1, c :: (relL (rkN c) wt cd).2) := by
  obtain ⟨n1, n2⟩ := jn_n (Or.inr h)
  rw [xst_of (rst_c h)]; unfold xcd; dsimp only; rw [if_neg n1, if_neg (by decide), if_neg n2]
end XST
/-! what code comes to -/
def jnF (c a b : Int32) : Int32 :=
  if c = 60 then (if a < b then 1 else 0) else if c = 62 then (if b < a then 1 else 0) else if c = 61 then (if a = b then 1 else 0)
  else if c = 43 then a + b else if c = 45 then a - b else if c = 42 then a * b else if b = 0 then 0 else a / b
def bin2 (c : Int32) : List Int32 → Option (List Int32)
  | b :: a :: r => some (jnF c a b :: r)
  | _ => none
def neg1 : List Int32 → Option (List Int32)
  | a :: r => some ((-a) :: r)
  | [] => none
def evS (lt : Int32 → Int32) (x : Int32) (σ : List Int32) : Option (List Int32) :=
  if x < 1000 then some (x :: σ)
  else if rkN (x - 1000) = 0 then (if isLt (x - 1000) then some (lt (x - 1000) :: σ) else none)
  else if rkN (x - 1000) = 4 then neg1 σ
  else bin2 (x - 1000) σ
def evR (lt : Int32 → Int32) : List Int32 → List Int32 → Option (List Int32)
  | [], σ => some σ
  | x :: l, σ => match evR lt l σ with
    | none => none
    | some τ => evS lt x τ
def flL : List Int32 → List Int32 → List Int32
  | [], sg => sg
  | x :: pd, sg => flL pd ((1000 + x) :: sg)
def hLt (r : Nat) : List Int32 → Prop
  | [] => True
  | x :: _ => rkN x < r
section EVR
variable {lt : Int32 → Int32} {c : Int32}
theorem relL_fl {r : Nat} : ∀ (pd sg cd wt : List Int32), (∀ x, x ∈ pd → r ≤ rkN x) → hLt r wt → relL r (pd ++ wt) (sg ++ cd) = (flL pd sg ++ cd, wt) := by
  intro pd
  induction pd with
  | nil =>
    intro sg cd wt h hw
    cases wt with
    | nil => rfl
    | cons x wt =>
      show (if rkN x < r then (sg ++ cd, x :: wt) else relL r wt ((1000 + x) :: (sg ++ cd))) = _
      rw [if_pos (show rkN x < r from hw)]
      rfl
  | cons y pd ih =>
    intro sg cd wt h hw
    show (if rkN y < r then (sg ++ cd, y :: (pd ++ wt)) else relL r (pd ++ wt) ((1000 + y) :: (sg ++ cd))) = _
    have hy := h y (List.mem_cons.mpr (Or.inl rfl))
    rw [if_neg (by omega)]
    exact ih ((1000 + y) :: sg) cd wt (fun x hx => h x (List.mem_cons.mpr (Or.inr hx))) hw
theorem flL_app : ∀ (pd sg X : List Int32), flL pd (sg ++ X) = flL pd sg ++ X := by
  intro pd
  induction pd with
  | nil => intro sg X; rfl
  | cons y pd ih => intro sg X; exact ih ((1000 + y) :: sg) X
theorem flL_snoc : ∀ (pd sg : List Int32), flL (pd ++ [c]) sg = (1000 + c) :: flL pd sg := by
  intro pd
  induction pd with
  | nil => intro sg; rfl
  | cons y pd ih => intro sg; exact ih ((1000 + y) :: sg)
theorem evR_c {x : Int32} {l σ τ : List Int32} (h : evR lt l σ = some τ) : evR lt (x :: l) σ = evS lt x τ := by
  show (match evR lt l σ with | none => none | some τ => evS lt x τ) = _
  rw [h]
theorem evR_app {b σ τ : List Int32} (h1 : evR lt b σ = some τ) : ∀ (a υ : List Int32), evR lt a τ = some υ → evR lt (a ++ b) σ = some υ := by
  intro a
  induction a with
  | nil => intro υ h2; exact h1.trans h2
  | cons x a ih =>
    intro υ h2
    cases e : evR lt a τ with
    | none =>
      have h3 : evR lt (x :: a) τ = none := by
        show (match evR lt a τ with | none => none | some τ => evS lt x τ) = _
        rw [e]
      rw [h3] at h2
      cases h2
    | some τ' =>
      rw [evR_c e] at h2
      have h4 : evR lt (a ++ b) σ = some τ' := ih τ' e
      exact (evR_c h4).trans h2
theorem evS_n {x : Int32} {σ : List Int32} (h : x.toInt < (1000 : Int32).toInt) : evS lt x σ = some (x :: σ) := by
  unfold evS
  rw [if_pos ((fa_lt _ _).mpr h)]
theorem evS_l {σ : List Int32} (h : isLt c) : evS lt (1000 + c) σ = some (lt c :: σ) := by
  have e : (1000 : Int32) + c - 1000 = c := by rw [Int32.add_comm, Int32.add_sub_cancel]
  have hb := isLt_ge h
  have hu : c.toInt ≤ 127 := by
    rcases h with h | rfl | rfl | rfl | rfl | rfl | rfl
    · have := z_le h.2
      have z : (100 : Int32).toInt = 100 := rfl
      omega
    all_goals decide
  have ta := ti_addl (x := (1000 : Int32)) (y := c) (c := 1000) rfl (by omega)
  have n1 : ¬ (1000 : Int32) + c < 1000 := fun q => by have := y_ltr (n := 1000) rfl q; omega
  have r0 : rkN c = 0 := by
    have ne : ∀ t : Int32, t.toInt < 97 ∨ 127 < t.toInt → ¬ c = t := fun t ht q => by rw [q] at hb hu; omega
    unfold rkN
    rw [if_neg (fun q => q.elim (ne _ (by decide)) (ne _ (by decide))), if_neg (fun q => q.elim (ne _ (by decide)) (ne _ (by decide))), if_neg (fun q => q.elim (ne _ (by decide)) (fun q => q.elim (ne _ (by decide)) (ne _ (by decide)))), if_neg (ne _ (by decide))]
  unfold evS
  rw [if_neg n1, e, if_pos r0, if_pos h]
theorem evS_g {a : Int32} {σ : List Int32} : evS lt (1000 + 256) (a :: σ) = some ((-a) :: σ) := by
  unfold evS
  rw [if_neg (by decide), if_neg (by decide), if_pos (by decide)]
  rfl
theorem evS_j {a b : Int32} {σ : List Int32} (h : isJn c ∨ isCm c) : evS lt (1000 + c) (b :: a :: σ) = some (jnF c a b :: σ) := by
  rcases h with (rfl | rfl | rfl | rfl) | (rfl | rfl | rfl) <;> (unfold evS; rw [if_neg (by decide), if_neg (by decide), if_neg (by decide)]; rfl)
theorem rk_j (h : isJn c) : (c = 42 ∨ c = 47) ∧ rkN c = 3 ∨ (c = 43 ∨ c = 45) ∧ rkN c = 2 := by
  rcases h with rfl | rfl | rfl | rfl
  · exact Or.inl ⟨Or.inl rfl, by decide⟩
  · exact Or.inr ⟨Or.inl rfl, by decide⟩
  · exact Or.inr ⟨Or.inr rfl, by decide⟩
  · exact Or.inl ⟨Or.inr rfl, by decide⟩
theorem rk_c (h : isCm c) : rkN c = 1 := by rcases h with rfl | rfl | rfl <;> decide
/-- v is what was read from (cd, wt) to (cd', wt'): what still waits of it binds at least ρ -/
def rV (lt : Int32 → Int32) (v : Int32) (ρ : Nat) (cd wt cd' wt' : List Int32) : Prop := ∃ sg pd, cd' = sg ++ cd ∧ wt' = pd ++ wt ∧ (∀ x, x ∈ pd → ρ ≤ rkN x) ∧ ∀ σ, evR lt (flL pd sg) σ = some (v :: σ)
theorem rV.wk {v : Int32} {ρ ρ' : Nat} {cd wt cd' wt' : List Int32} (h : rV lt v ρ cd wt cd' wt') (hr : ρ' ≤ ρ) : rV lt v ρ' cd wt cd' wt' := by
  obtain ⟨sg, pd, h1, h2, h3, h4⟩ := h
  exact ⟨sg, pd, h1, h2, fun x hx => Nat.le_trans hr (h3 x hx), h4⟩
theorem rV.one {x v : Int32} {ρ : Nat} {cd wt : List Int32} (h : ∀ σ, evS lt x σ = some (v :: σ)) : rV lt v ρ cd wt (x :: cd) wt := ⟨[x], [], rfl, rfl, fun x hx => absurd hx (by simp), fun σ => (evR_c (l := []) rfl).trans (h σ)⟩
theorem rV.neg {v : Int32} {cd wt cd' wt' : List Int32} (h : rV lt v 4 cd (256 :: wt) cd' wt') : rV lt (-v) 4 cd wt cd' wt' := by
  obtain ⟨sg, pd, h1, h2, h3, h4⟩ := h
  refine ⟨sg, pd ++ [256], h1, by rw [h2, List.append_assoc]; rfl, fun x hx => ?_, fun σ => ?_⟩
  · rcases List.mem_append.mp hx with hx | hx
    · exact h3 x hx
    · rw [List.mem_singleton.mp hx]; decide
  · rw [flL_snoc, evR_c (h4 σ)]
    exact evS_g
theorem rV.par {v : Int32} {cd wt cd' wt' : List Int32} (h : rV lt v 1 cd (40 :: wt) cd' wt') : rV lt v 4 cd wt (relL 1 wt' cd').1 (relL 1 wt' cd').2.tail := by
  obtain ⟨sg, pd, h1, h2, h3, h4⟩ := h
  rw [h1, h2, relL_fl pd sg cd (40 :: wt) h3 (show rkN 40 < 1 by decide)]
  exact ⟨flL pd sg, [], rfl, rfl, fun x hx => absurd hx (by simp), h4⟩
theorem rV.op {a b : Int32} {ρ ρ2 : Nat} {cd wt cd1 wt1 cd2 wt2 : List Int32} (h1 : rV lt a ρ cd wt cd1 wt1) (hw : hLt ρ wt) (hj : isJn c ∨ isCm c) (hc : rkN c = ρ) (hρ : ρ ≤ ρ2)
    (h2 : rV lt b ρ2 (relL (rkN c) wt1 cd1).1 (c :: (relL (rkN c) wt1 cd1).2) cd2 wt2) : rV lt (jnF c a b) ρ cd wt cd2 wt2 := by
  obtain ⟨sg, pd, a1, a2, a3, a4⟩ := h1
  rw [hc, a1, a2, relL_fl pd sg cd wt a3 hw] at h2
  obtain ⟨sg2, pd2, b1, b2, b3, b4⟩ := h2
  refine ⟨sg2 ++ flL pd sg, pd2 ++ [c], by rw [b1, List.append_assoc], by rw [b2, List.append_assoc]; rfl, fun x hx => ?_, fun σ => ?_⟩
  · rcases List.mem_append.mp hx with hx | hx
    · exact Nat.le_trans hρ (b3 x hx)
    · rw [List.mem_singleton.mp hx, hc]; exact Nat.le_refl _
  · rw [flL_snoc, flL_app, evR_c (evR_app (a4 σ) _ _ (b4 (a :: σ)))]
    exact evS_j hj
end EVR
/-! the descent is a run of it -/
/-- R is where a part of the descent came out: a fault where the run ends, or a state of the run, and what was read -/
def rF (lt : Int32 → Int32) (tx : Nat → Int32) (e : Nat) (big : Bool) (O : Nat ⊕ XS) (cd wt : List Int32) (ρ lo : Nat) (G : List Bool → Int32 → Prop) (L : List Bool → Prop) (R : Int32 × Sp) : Prop :=
  (R.2.2 ≠ -1 → ∃ q, q ≤ e ∧ O = .inl q ∧ R.2.2 = nI q) ∧
  (R.2.2 = -1 → lo < R.2.1 ∧ R.2.1 ≤ e ∧ ∃ dg fs cd' wt', L fs ∧ rV lt R.1 ρ cd wt cd' wt' ∧ (R.2.1 < e → isDg (tx R.2.1) → dg = 0 ∨ dg = 3) ∧ (R.2.1 < e → G fs (tx R.2.1)) ∧ MO xst xok tx big (e - R.2.1) R.2.1 ((false, dg, fs), cd', wt') = O)
section RDS
variable {tx : Nat → Int32} {e : Nat} {big : Bool} {O : Nat ⊕ XS} {lo lo' ρ ρ' : Nat} {G G' : List Bool → Int32 → Prop} {L L' : List Bool → Prop} {R : Int32 × Sp} {lt : Int32 → Int32} {cd wt : List Int32}
theorem rF.flt {q : Nat} (he : e ≤ 80) (hq : q ≤ e) (hO : O = .inl q) (hs : R.2.2 = nI q) : rF lt tx e big O cd wt ρ lo G L R := ⟨fun _ => ⟨q, hq, hO, hs⟩, fun h => absurd (hs.symm.trans h) (fun z => m1_ne q (by omega) z.symm)⟩
theorem rF.wk (h : rF lt tx e big O cd wt ρ lo G L R) (hl : lo' ≤ lo) (hr : ρ' ≤ ρ) (hG : ∀ fs c, L fs → G fs c → G' fs c) (hL : ∀ fs, L fs → L' fs) : rF lt tx e big O cd wt ρ' lo' G' L' R := ⟨h.1, fun hs => by
  obtain ⟨a, b, dg, fs, cd', wt', c1, cv, c2, c3, c4⟩ := h.2 hs
  exact ⟨by omega, b, dg, fs, cd', wt', hL fs c1, cv.wk hr, c2, fun hp => hG fs _ c1 (c3 hp), c4⟩⟩
theorem num_rel : ∀ (k : Nat) (v : Int32) (p dg : Nat) (fs : List Bool), dg + k = 3 → 1 ≤ dg → p ≤ e → 0 ≤ v.toInt → ((k = 0 ∧ v.toInt ≤ 999) ∨ (k = 1 ∧ v.toInt ≤ 99) ∨ (k = 2 ∧ v.toInt ≤ 9)) → MO xst xok tx big (e - p) p ((false, dg, fs), v :: cd, wt) = O →
    p ≤ (numF tx e k v p).2 ∧ (numF tx e k v p).2 ≤ e ∧ (numF tx e k v p).1.toInt ≤ 999 ∧ ∃ dg', ((numF tx e k v p).2 < e → isDg (tx (numF tx e k v p).2) → dg' = 0 ∨ dg' = 3) ∧ MO xst xok tx big (e - (numF tx e k v p).2) (numF tx e k v p).2 ((false, dg', fs), (numF tx e k v p).1 :: cd, wt) = O := by
  intro k
  induction k with
  | zero =>
    intro v p dg fs hk h1 hp h0 hv hO
    exact ⟨Nat.le_refl _, hp, by show v.toInt ≤ 999; omega, dg, fun _ _ => Or.inr (by omega), hO⟩
  | succ k ih =>
    intro v p dg fs hk h1 hp h0 hv hO
    have e0 : numF tx e (k + 1) v p = if 48 ≤ hrF tx e p ∧ hrF tx e p ≤ 57 then numF tx e k (10 * v + hrF tx e p - 48) (p + 1) else (v, p) := rfl
    rw [e0]
    by_cases hd : 48 ≤ hrF tx e p ∧ hrF tx e p ≤ 57
    · rw [if_pos hd]
      have hlt := dig_lt hd.1
      have hd2 : isDg (tx p) := by rw [hr_in hlt] at hd; exact hd
      rw [hr_in hlt]
      have q1 := y_lel (n := 48) rfl hd2.1
      have q2 := y_ler (n := 57) rfl hd2.2
      have z48 : (48 : Int32).toInt = 48 := rfl
      have t1 := ti_mulc (y := (10 : Int32)) (x := v) (c := 10) rfl (by omega)
      have t2 := ti_add (x := (10 : Int32) * v) (y := tx p) (by omega)
      have t3 := ti_sub (x := (10 : Int32) * v + tx p) (y := (48 : Int32)) (by omega)
      have ev : v * 10 + (tx p - 48) = 10 * v + tx p - 48 := by
        have u1 := ti_sub (x := tx p) (y := (48 : Int32)) (by omega)
        have u2 := ti_mulr (y := (10 : Int32)) (x := v) (c := 10) rfl (by omega)
        have u3 := ti_add (x := v * (10 : Int32)) (y := tx p - 48) (by omega)
        exact (fa_eq _ _).mpr (by omega)
      obtain ⟨a, b, b2, c⟩ := ih (10 * v + tx p - 48) (p + 1) (dg + 1) fs (by omega) (by omega) (by omega) (by omega) (by omega) (by rw [← hO, MO_ss hlt (xs_ds hd2 (by omega)), ev])
      exact ⟨by omega, b, b2, c⟩
    · rw [if_neg hd]
      exact ⟨Nat.le_refl _, hp, by show v.toInt ≤ 999; omega, dg, fun hlt q => absurd (by rw [hr_in hlt]; exact q) hd, hO⟩
theorem loop_rel {c1 c2 : Int32} {op : Bool → Int32 → Int32 → Int32} {g : Sp → Int32 × Sp} {fs : List Bool} (h1 : isJn c1) (h2 : isJn c2) (k1 : rkN c1 = ρ) (k2 : rkN c2 = ρ) (hop : ∀ c a b, c = c1 ∨ c = c2 → op (decide (c = c1)) a b = jnF c a b) (hw : hLt ρ wt)
    (hg : ∀ p cd' wt', hLt (ρ + 1) wt' → lo < p → p ≤ e → MO xst xok tx big (e - p) p ((true, 0, fs), cd', wt') = O → rF lt tx e big O cd' wt' (ρ + 1) p G (fun r => r = fs) (g (p, -1))) :
    ∀ (k : Nat) (acc : Int32) (s : Sp), rF lt tx e big O cd wt ρ lo G (fun r => r = fs) (acc, s) → (s.2 = -1 → e - s.1 < k) → rF lt tx e big O cd wt ρ lo (fun r c => G r c ∧ c ≠ c1 ∧ c ≠ c2) (fun r => r = fs) (loopF tx e c1 c2 op g k acc s) := by
  have n1 : c1 ≠ -1 := by rcases h1 with rfl | rfl | rfl | rfl <;> decide
  have n2 : c2 ≠ -1 := by rcases h2 with rfl | rfl | rfl | rfl <;> decide
  intro k
  induction k with
  | zero =>
    intro acc s h hk
    exact ⟨h.1, fun hs => absurd (hk hs) (Nat.not_lt_zero _)⟩
  | succ k ih =>
    intro acc s h hk
    have e0 : loopF tx e c1 c2 op g (k + 1) acc s = if s.2 = -1 ∧ (hrF tx e s.1 = c1 ∨ hrF tx e s.1 = c2) then loopF tx e c1 c2 op g k (op (decide (hrF tx e s.1 = c1)) acc (g (s.1 + 1, s.2)).1) (g (s.1 + 1, s.2)).2 else (acc, s) := rfl
    rw [e0]
    by_cases hc : s.2 = -1 ∧ (hrF tx e s.1 = c1 ∨ hrF tx e s.1 = c2)
    · rw [if_pos hc]
      obtain ⟨hs, hc⟩ := hc
      have hlt : s.1 < e := by
        by_cases q : s.1 < e
        · exact q
        · rw [hr_out q] at hc
          rcases hc with z | z
          · exact absurd z.symm n1
          · exact absurd z.symm n2
      rw [hr_in hlt] at hc ⊢
      have hj : isJn (tx s.1) := by rcases hc with z | z <;> (rw [z]; assumption)
      have hk1 : rkN (tx s.1) = ρ := by rcases hc with z | z <;> (rw [z]; assumption)
      obtain ⟨a, b, dg, fs', cd1, wt1, hfs, hV, -, -, hO⟩ := h.2 hs
      have hfs' : fs' = fs := hfs
      subst hfs'
      have hO' : MO xst xok tx big (e - (s.1 + 1)) (s.1 + 1) ((true, 0, fs'), (relL (rkN (tx s.1)) wt1 cd1).1, tx s.1 :: (relL (rkN (tx s.1)) wt1 cd1).2) = O := by rw [← hO]; exact (MO_ss hlt (xs_j hj)).symm
      have r := hg (s.1 + 1) _ _ (show hLt (ρ + 1) (tx s.1 :: (relL (rkN (tx s.1)) wt1 cd1).2) from (show rkN (tx s.1) < ρ + 1 by omega)) (show lo < s.1 + 1 by have : lo < s.1 := a; omega) (by omega) hO'
      rw [hs]
      refine ih _ _ ⟨r.1, fun hs2 => ?_⟩ (fun hs2 => ?_)
      · obtain ⟨a', b', dg', fs2, cd2, wt2, c1', cv, c2', c3, c4⟩ := r.2 hs2
        have a2 : lo < s.1 := a
        have a3 : s.1 + 1 < (g (s.1 + 1, -1)).2.1 := a'
        exact ⟨show lo < (g (s.1 + 1, -1)).2.1 by omega, b', dg', fs2, cd2, wt2, c1', by rw [hop _ _ _ hc]; exact hV.op hw (Or.inl hj) hk1 (Nat.le_succ _) cv, c2', c3, c4⟩
      · have := (r.2 hs2).1
        have := hk hs
        omega
    · rw [if_neg hc]
      refine ⟨h.1, fun hs => ?_⟩
      obtain ⟨a, b, dg, fs', cd1, wt1, c1', cv, c2', c3, c4⟩ := h.2 hs
      exact ⟨a, b, dg, fs', cd1, wt1, c1', cv, c2', fun hlt => ⟨c3 hlt, fun q => hc ⟨hs, Or.inl (by rw [hr_in hlt]; exact q)⟩, fun q => hc ⟨hs, Or.inr (by rw [hr_in hlt]; exact q)⟩⟩, c4⟩
/-- what may stand behind a comparison's level -/
def gE (fs : List Bool) (c : Int32) : Prop := ¬ isJn c ∧ (isCm c → fs.head? = some true)
theorem rst_end {c : Int32} {dg : Nat} {fs : List Bool} (hd : isDg c → dg = 0 ∨ dg = 3) (hG : gE fs c) (h41 : c ≠ 41) : rst c (false, dg, fs) = none := by
  by_cases h1 : isDg c
  · exact rst_dn h1 (hd h1)
  · by_cases h3 : isCm c
    · have := hG.2 h3
      cases fs with
      | nil => cases this
      | cons f r =>
        have hf : f = true := Option.some.inj this
        rw [hf]
        exact rst_cn h3
    · exact rst_n h1 h41 h3 hG.1
theorem hLt.wk {r r' : Nat} {w : List Int32} (h : hLt r w) (hr : r ≤ r') : hLt r' w := by
  cases w with
  | nil => trivial
  | cons x w => exact Nat.lt_of_lt_of_le h hr
set_option maxHeartbeats 1000000 in
theorem des_rel (he : e ≤ 80) : ∀ n : Nat,
    (∀ dp p fs cd wt O, dp ≤ 4 → fs.length = dp + 1 → p ≤ e → 4 * (e - p) + 1 ≤ n → MO xst xok tx big (e - p) p ((true, 0, fs), cd, wt) = O → rF lt tx e big O cd wt 4 p (fun _ _ => True) (fun r => r = fs) (prF tx e lt n 0 dp (p, -1))) ∧
    (∀ dp p fs cd wt O, dp ≤ 4 → fs.length = dp + 1 → p ≤ e → 4 * (e - p) + 2 ≤ n → hLt 3 wt → MO xst xok tx big (e - p) p ((true, 0, fs), cd, wt) = O → rF lt tx e big O cd wt 3 p (fun _ c => c ≠ 42 ∧ c ≠ 47) (fun r => r = fs) (prF tx e lt n 1 dp (p, -1))) ∧
    (∀ dp p fs cd wt O, dp ≤ 4 → fs.length = dp + 1 → p ≤ e → 4 * (e - p) + 3 ≤ n → hLt 2 wt → MO xst xok tx big (e - p) p ((true, 0, fs), cd, wt) = O → rF lt tx e big O cd wt 2 p (fun _ c => ¬ isJn c) (fun r => r = fs) (prF tx e lt n 2 dp (p, -1))) ∧
    (∀ dp p r cd wt O, dp ≤ 4 → (false :: r).length = dp + 1 → p ≤ e → 4 * (e - p) + 4 ≤ n → hLt 1 wt → MO xst xok tx big (e - p) p ((true, 0, false :: r), cd, wt) = O → rF lt tx e big O cd wt 1 p gE (fun fs => ∃ f, fs = f :: r) (prF tx e lt n 3 dp (p, -1))) := by
  intro n
  induction n with
  | zero => exact ⟨fun _ _ _ _ _ _ _ _ _ h => by omega, fun _ _ _ _ _ _ _ _ _ h => by omega, fun _ _ _ _ _ _ _ _ _ h => by omega, fun _ _ _ _ _ _ _ _ _ h => by omega⟩
  | succ n ih =>
    obtain ⟨i0, i1, i2, i3⟩ := ih
    refine ⟨fun dp p fs cd wt O hdp hf hp hn hO => ?_, fun dp p fs cd wt O hdp hf hp hn hw hO => ?_, fun dp p fs cd wt O hdp hf hp hn hw hO => ?_, fun dp p r cd wt O hdp hf hp hn hw hO => ?_⟩
    · -- a thing
      have e0 : prF tx e lt (n + 1) 0 dp (p, -1) = thgF tx e lt (prF tx e lt n 0 dp) (prF tx e lt n 3 (dp + 1)) dp (p, -1) := rfl
      rw [e0]
      unfold thgF
      dsimp only
      by_cases hlt : p < e
      · rw [hr_in hlt]
        by_cases c45 : tx p = 45
        · rw [if_pos ((pass_iff (by decide)).mpr ⟨hlt, c45⟩)]
          have r := i0 dp (p + 1) fs cd (256 :: wt) O hdp hf (by omega) (by omega) (by rw [← hO]; exact (MO_ss hlt (by rw [c45]; exact xs_m)).symm)
          refine ⟨r.1, fun hs => ?_⟩
          obtain ⟨a, b, dg, fs', cd', wt', c1, cv, c2, c3, c4⟩ := r.2 hs
          exact ⟨by dsimp only at a ⊢; omega, b, dg, fs', cd', wt', c1, cv.neg, c2, c3, c4⟩
        · rw [if_neg (fun q => c45 ((pass_iff (by decide)).mp q).2), if_neg (c := ¬ ((-1 : Int32) = -1)) (fun h => h rfl)]
          by_cases c40 : tx p = 40
          · by_cases hd4 : dp < 4
            · rw [if_pos ⟨c40, hd4⟩]
              have r := i3 (dp + 1) (p + 1) fs cd (40 :: wt) O (by omega) (by rw [List.length_cons, hf]) (by omega) (by omega) (show rkN 40 < 1 by decide) (by rw [← hO]; exact (MO_ss hlt (by rw [c40]; exact xs_o (by omega))).symm)
              generalize prF tx e lt n 3 (dp + 1) (p + 1, -1) = R at r ⊢
              obtain ⟨v, p2, w⟩ := R
              by_cases hw : w = -1
              · subst hw
                obtain ⟨a, b, dg, fs', cd', wt', ⟨f, rfl⟩, cv, c2, c3, c4⟩ := r.2 rfl
                dsimp only at a b c2 c3 c4 cv
                obtain ⟨g, r', rfl⟩ : ∃ g r', fs = g :: r' := by
                  cases fs with
                  | nil => exact absurd hf (by simp)
                  | cons g r' => exact ⟨g, r', rfl⟩
                by_cases h41 : p2 < e ∧ tx p2 = 41
                · have e1 : needF tx e 41 (p2, -1) = (p2 + 1, -1) := if_pos ((pass_iff (by decide)).mpr h41)
                  dsimp only
                  rw [e1]
                  exact ⟨fun h => absurd rfl h, fun _ => ⟨by dsimp only; omega, by dsimp only; omega, 0, g :: r', _, _, rfl, cv.par, fun _ _ => Or.inl rfl, fun _ => trivial, by rw [← c4]; exact (MO_ss h41.1 (by rw [h41.2]; exact xs_p)).symm⟩⟩
                · have e1 : needF tx e 41 (p2, -1) = (p2, nI p2) := by
                    have h0 : ¬ passF tx e 41 (p2, -1) = true := fun q => h41 ((pass_iff (by decide)).mp q)
                    unfold needF fltF
                    rw [if_neg h0, if_pos rfl]
                  dsimp only
                  rw [e1]
                  refine rF.flt he b ?_ rfl
                  rw [← c4]
                  refine MO_ff (fun q => xst_none (rst_end (c2 q) (c3 q) (fun z => h41 ⟨q, z⟩))) (fun _ => ?_)
                  exact decide_eq_false (p := false = false ∧ (f :: g :: r').length = 1) (fun q => by have := q.2; simp at this)
              · obtain ⟨q, hq, hO', hw'⟩ := r.1 hw
                have e1 : needF tx e 41 (p2, w) = (p2, w) := by
                  have h0 : ¬ passF tx e 41 (p2, w) = true := pass_d hw
                  unfold needF fltF
                  rw [if_neg h0, if_neg hw]
                dsimp only
                rw [e1]
                exact rF.flt he hq hO' hw'
            · rw [if_neg (fun q => hd4 q.2), if_neg (by rw [c40]; decide), if_neg (by rw [c40]; decide)]
              refine rF.flt he hp ?_ (show (fltF (nI p) (p, -1)).2 = nI p from congrArg Prod.snd (if_pos rfl))
              rw [← hO]
              refine MO_ff (fun _ => by rw [c40]; exact xst_none (rst_on (by omega))) (fun _ => rfl)
          · rw [if_neg (fun q => c40 q.1)]
            by_cases hd : isDg (tx p)
            · rw [if_pos hd]
              have e1 : numF tx e 3 0 p = numF tx e 2 (10 * 0 + hrF tx e p - 48) (p + 1) := by
                show (if 48 ≤ hrF tx e p ∧ hrF tx e p ≤ 57 then numF tx e 2 (10 * 0 + hrF tx e p - 48) (p + 1) else (0, p)) = _
                rw [if_pos (by rw [hr_in hlt]; exact hd)]
              rw [e1, hr_in hlt]
              have q1 := y_lel (n := 48) rfl hd.1
              have q2 := y_ler (n := 57) rfl hd.2
              have z48 : (48 : Int32).toInt = 48 := rfl
              have t1 := ti_sub (x := tx p) (y := (48 : Int32)) (by omega)
              have ev : 10 * 0 + tx p - 48 = tx p - 48 := by
                have t2 := ti_addl (x := (10 : Int32) * 0) (y := tx p) (c := 0) rfl (by omega)
                have t3 := ti_sub (x := (10 : Int32) * 0 + tx p) (y := (48 : Int32)) (by omega)
                exact (fa_eq _ _).mpr (by omega)
              rw [ev]
              obtain ⟨a, b, b2, dg, c, c4⟩ := num_rel (tx := tx) (e := e) (big := big) (O := O) (cd := cd) (wt := wt) 2 (tx p - 48) (p + 1) 1 fs (by decide) (by decide) (by omega) (by omega) (by omega) (by rw [← hO]; exact (MO_ss hlt (xs_d hd)).symm)
              exact ⟨fun h => absurd rfl h, fun _ => ⟨by dsimp only; omega, b, dg, fs, _, _, rfl, rV.one (fun σ => evS_n (by have z : (1000 : Int32).toInt = 1000 := rfl; dsimp only; omega)), c, fun _ => trivial, c4⟩⟩
            · rw [if_neg hd]
              by_cases hl : isLt (tx p)
              · rw [if_pos hl]
                exact ⟨fun h => absurd rfl h, fun _ => ⟨by dsimp only; omega, by dsimp only; omega, 0, fs, _, _, rfl, rV.one (fun σ => evS_l hl), fun _ _ => Or.inl rfl, fun _ => trivial, by rw [← hO]; exact (MO_ss hlt (xs_l hl)).symm⟩⟩
              · rw [if_neg hl]
                refine rF.flt he hp ?_ (show (fltF (nI p) (p, -1)).2 = nI p from congrArg Prod.snd (if_pos rfl))
                rw [← hO]
                exact MO_ff (fun _ => xst_none (rst_wn hd c45 c40 hl)) (fun _ => rfl)
      · rw [hr_out hlt, if_neg (fun q => hlt ((pass_iff (by decide)).mp q).1), if_neg (c := ¬ ((-1 : Int32) = -1)) (fun h => h rfl), if_neg (fun q => absurd q.1 (by decide)), if_neg (by decide), if_neg (by decide)]
        refine rF.flt he hp ?_ (show (fltF (nI p) (p, -1)).2 = nI p from congrArg Prod.snd (if_pos rfl))
        rw [← hO]
        exact MO_ff (fun q => absurd q hlt) (fun _ => rfl)
    · -- a product
      have e0 : prF tx e lt (n + 1) 1 dp (p, -1) = loopF tx e 42 47 opM (prF tx e lt n 0 dp) 81 (prF tx e lt n 0 dp (p, -1)).1 (prF tx e lt n 0 dp (p, -1)).2 := rfl
      rw [e0]
      have r := i0 dp p fs cd wt O hdp hf hp (by omega) hO
      refine (loop_rel (ρ := 3) (Or.inl rfl) (Or.inr (Or.inr (Or.inr rfl))) (by decide) (by decide) (fun c a b h => ?_) hw (fun q cd' wt' _ h1 h2 hO2 => i0 dp q fs cd' wt' O hdp hf h2 (by omega) hO2) 81 _ _ (r.wk (Nat.le_refl _) (by decide) (fun _ _ _ h => h) (fun _ h => h)) (fun hs => by have := (r.2 hs).1; omega)).wk (Nat.le_refl _) (Nat.le_refl _) (fun _ _ _ h => h.2) (fun _ h => h)
      rcases h with rfl | rfl
      · rfl
      · rfl
    · -- a sum
      have e0 : prF tx e lt (n + 1) 2 dp (p, -1) = loopF tx e 43 45 opA (prF tx e lt n 1 dp) 81 (prF tx e lt n 1 dp (p, -1)).1 (prF tx e lt n 1 dp (p, -1)).2 := rfl
      rw [e0]
      have r := i1 dp p fs cd wt O hdp hf hp (by omega) (hw.wk (by decide)) hO
      refine (loop_rel (ρ := 2) (Or.inr (Or.inl rfl)) (Or.inr (Or.inr (Or.inl rfl))) (by decide) (by decide) (fun c a b h => ?_) hw (fun q cd' wt' hw' h1 h2 hO2 => i1 dp q fs cd' wt' O hdp hf h2 (by omega) hw' hO2) 81 _ _ (r.wk (Nat.le_refl _) (by decide) (fun _ _ _ h => h) (fun _ h => h)) (fun hs => by have := (r.2 hs).1; omega)).wk (Nat.le_refl _) (Nat.le_refl _) (fun _ c _ h => ?_) (fun _ h => h)
      · rcases h with rfl | rfl
        · rfl
        · rfl
      · obtain ⟨⟨h42, h47⟩, h43, h45⟩ := h
        rintro (q | q | q | q)
        · exact h42 q
        · exact h43 q
        · exact h45 q
        · exact h47 q
    · -- what is compared
      have e0 : prF tx e lt (n + 1) 3 dp (p, -1) = cmpF tx e (prF tx e lt n 2 dp) (prF tx e lt n 2 dp (p, -1)) := rfl
      rw [e0]
      have r1 := i2 dp p (false :: r) cd wt O hdp hf hp (by omega) (hw.wk (by decide)) hO
      generalize prF tx e lt n 2 dp (p, -1) = R at r1 ⊢
      obtain ⟨v, p2, w⟩ := R
      by_cases hm : w = -1
      · subst hm
        obtain ⟨a, b, dg, fs', cd1, wt1, hfs, cv, c2, c3, c4⟩ := r1.2 rfl
        have hfs' : fs' = false :: r := hfs
        subst hfs'
        dsimp only at a b c2 c3 c4 cv
        have go : ∀ c : Int32, isCm c → p2 < e → tx p2 = c → ∀ R2, R2 = (jnF c v (prF tx e lt n 2 dp (p2 + 1, -1)).1, (prF tx e lt n 2 dp (p2 + 1, -1)).2) → rF lt tx e big O cd wt 1 p gE (fun fs => ∃ f, fs = f :: r) R2 := by
          rintro c hc hlt htx R2 rfl
          have r2 := i2 dp (p2 + 1) (true :: r) _ _ O hdp hf (by omega) (by omega) (show hLt 2 (c :: (relL (rkN c) wt1 cd1).2) from show rkN c < 2 by rw [rk_c hc]; decide) (by rw [← c4]; exact (MO_ss hlt (by rw [htx]; exact xs_c hc)).symm)
          refine ⟨r2.1, fun hs => ?_⟩
          obtain ⟨a', b', dg', fs2, cd2, wt2, hf2, cv2, d2, d3, d4⟩ := r2.2 hs
          refine ⟨by dsimp only; omega, b', dg', fs2, cd2, wt2, ⟨true, hf2⟩, (cv.wk (by decide)).op hw (Or.inr hc) (rk_c hc) (by decide) cv2, d2, fun hp2 => ⟨d3 hp2, fun _ => by rw [show fs2 = true :: r from hf2]; rfl⟩, d4⟩
        unfold cmpF
        dsimp only
        by_cases h1 : passF tx e 60 (p2, -1) = true
        · rw [if_pos h1]
          obtain ⟨q1, q2⟩ := (pass_iff (by decide)).mp h1
          exact go 60 (Or.inl rfl) q1 q2 _ rfl
        · rw [if_neg h1]
          by_cases h2 : passF tx e 62 (p2, -1) = true
          · rw [if_pos h2]
            obtain ⟨q1, q2⟩ := (pass_iff (by decide)).mp h2
            exact go 62 (Or.inr (Or.inr rfl)) q1 q2 _ rfl
          · rw [if_neg h2]
            by_cases h3 : passF tx e 61 (p2, -1) = true
            · rw [if_pos h3]
              obtain ⟨q1, q2⟩ := (pass_iff (by decide)).mp h3
              exact go 61 (Or.inr (Or.inl rfl)) q1 q2 _ rfl
            · rw [if_neg h3]
              refine ⟨fun h => absurd rfl h, fun _ => ⟨a, b, dg, false :: r, cd1, wt1, ⟨false, rfl⟩, cv.wk (by decide), c2, fun q => ⟨c3 q, fun z => ?_⟩, c4⟩⟩
              rcases z with z | z | z
              · exact absurd ((pass_iff (by decide)).mpr ⟨q, z⟩) h1
              · exact absurd ((pass_iff (by decide)).mpr ⟨q, z⟩) h3
              · exact absurd ((pass_iff (by decide)).mpr ⟨q, z⟩) h2
      · obtain ⟨q, hq, hO', hw'⟩ := r1.1 hm
        unfold cmpF
        dsimp only
        rw [if_neg (pass_d hm), if_neg (pass_d hm), if_neg (pass_d hm)]
        exact rF.flt he hq hO' hw'
end RDS
