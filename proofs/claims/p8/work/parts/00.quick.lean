section
/-! DECODE ROWS IN ONE WALK: the array is walked once up to the instruction, its bytes are compared, and a row for each opcode says what it decodes to -/
section DQ
noncomputable def mqL {α : Type} (l : List α) : Nat → List α := @List.rec α (fun _ => Nat → List α) (fun _ => []) (fun a t f n => @Nat.rec (fun _ => List α) (a :: t) (fun m _ => f m) n) l
noncomputable def mqH {α : Type} (l : List α) (n : Nat) : Option α := @List.rec α (fun _ => Option α) none (fun a _ _ => some a) (mqL l n)
theorem mq_mem {α : Type} {l : List α} : ∀ {n : Nat} {w : α}, mqH l n = some w → w ∈ l := by
  induction l with
  | nil =>
    intro n w h
    have h' : (none : Option α) = some w := h
    cases h'
  | cons a l ih =>
    intro n w h
    cases n with
    | zero =>
      have h' : some a = some w := h
      injection h' with e
      subst e
      exact List.Mem.head _
    | succ n =>
      have h' : mqH l n = some w := h
      exact List.Mem.tail _ (ih h')
theorem mq_get {α : Type} {l : List α} : ∀ {n : Nat} {w : α}, mqH l n = some w → l[n]? = some w := by
  induction l with
  | nil =>
    intro n w h
    have h' : (none : Option α) = some w := h
    cases h'
  | cons a l ih =>
    intro n w h
    cases n with
    | zero => exact h
    | succ n =>
      have h' : mqH l n = some w := h
      exact ih h'
noncomputable def dqL (l : List UInt8) : Nat → List UInt8 := @List.rec UInt8 (fun _ => Nat → List UInt8) (fun _ => []) (fun a t f n => @Nat.rec (fun _ => List UInt8) (a :: t) (fun m _ => f m) n) l
theorem dqL_0 (l : List UInt8) : dqL l 0 = l := by cases l <;> rfl
theorem dq_rd {l : List UInt8} : ∀ {p : Nat} {a : UInt8} {t : List UInt8}, dqL l p = a :: t → ∃ h : p < l.length, l[p] = a ∧ dqL l (p + 1) = t := by
  induction l with
  | nil =>
    intro p a t h
    have h' : ([] : List UInt8) = a :: t := h
    cases h'
  | cons x l ih =>
    intro p a t h
    cases p with
    | zero =>
      have h' : x :: l = a :: t := h
      injection h' with h1 h2
      exact ⟨Nat.succ_pos _, h1, (dqL_0 l).trans h2⟩
    | succ p =>
      have h' : dqL l p = a :: t := h
      obtain ⟨q1, q2, q3⟩ := ih h'
      exact ⟨Nat.succ_lt_succ q1, q2, q3⟩
theorem dq_nx {l : List UInt8} {p : Nat} {a : UInt8} {t : List UInt8} (h : dqL l p = a :: t) : dqL l (p + 1) = t := (dq_rd h).2.2
theorem dq_u1 {c : ByteArray} {p : Nat} {a : UInt8} {t : List UInt8} (h : dqL c.data.toList p = a :: t) : Jvm.ClassFile.Reader.runAt (Jvm.ClassFile.Reader.u1 : Jvm.ClassFile.Decoder Nat) c p = .ok (a.toNat, p + 1) := by
  obtain ⟨⟨l⟩⟩ := c
  obtain ⟨q1, q2, -⟩ := dq_rd (l := l) h
  have e : p < (ByteArray.mk (Array.mk l)).size := q1
  show (dite (p < (ByteArray.mk (Array.mk l)).size) _ _ : Jvm.ClassFile.Decoder Nat) _ p = _
  rw [dif_pos e]
  show Except.ok ((l[p]).toNat, p + 1) = _
  rw [q2]
theorem dq_bind {α β : Type} {c : ByteArray} {p s : Nat} {a : α} {r : Jvm.ClassFile.Decoder α} {f : α → Jvm.ClassFile.Decoder β} (h : Jvm.ClassFile.Reader.runAt r c p = .ok (a, s)) : Jvm.ClassFile.Reader.runAt (r >>= f) c p = Jvm.ClassFile.Reader.runAt (f a) c s := by
  show Except.bind (Jvm.ClassFile.Reader.runAt r c p) _ = _
  rw [h]
  rfl
theorem dq_map {α β : Type} {c : ByteArray} {p s : Nat} {a : α} {r : Jvm.ClassFile.Decoder α} {f : α → β} (h : Jvm.ClassFile.Reader.runAt r c p = .ok (a, s)) : Jvm.ClassFile.Reader.runAt (f <$> r) c p = .ok (f a, s) := by
  show Except.bind (Jvm.ClassFile.Reader.runAt r c p) _ = _
  rw [h]
  rfl
theorem dq_u2 {c : ByteArray} {p : Nat} {a b : UInt8} {t : List UInt8} (h : dqL c.data.toList p = a :: b :: t) : Jvm.ClassFile.Reader.runAt (Jvm.ClassFile.Reader.u2 : Jvm.ClassFile.Decoder Nat) c p = .ok (a.toNat * 256 + b.toNat, p + 2) :=
  (dq_bind (dq_u1 h)).trans ((dq_bind (dq_u1 (dq_nx h))).trans rfl)
noncomputable def dqK : {k : Nat → Nat → Jvm.ClassFile.Decoder Instr // ∀ x, Jvm.ClassFile.Decoder.instr x = (Jvm.ClassFile.Reader.u1 >>= k x)} := ⟨_, fun x => rfl⟩
theorem dq_op {c : ByteArray} {p o : Nat} {a : UInt8} {t : List UInt8} (h : dqL c.data.toList p = a :: t) (e : a.toNat = o) : Jvm.ClassFile.Reader.runAt (Jvm.ClassFile.Decoder.instr p) c p = Jvm.ClassFile.Reader.runAt (dqK.1 p o) c (p + 1) := by
  subst e
  rw [dqK.2 p]
  exact dq_bind (dq_u1 h)
theorem dq_dec {c : ByteArray} {p n : Nat} {I : Instr} (h : Jvm.ClassFile.Reader.runAt (Jvm.ClassFile.Decoder.instr p) c p = .ok (I, p + n)) : decode c p = .ok (I, n) := by
  have e1 : decode c p = .ok (I, p + n - p) := by
    show Except.bind (Jvm.ClassFile.Reader.runAt (Jvm.ClassFile.Decoder.instr p) c p) _ = _
    rw [h]
    rfl
  rw [e1, Nat.add_sub_cancel_left]
noncomputable def dq0 (c : ByteArray) (p o : Nat) : Bool := match dqL c.data.toList p with
  | a :: _ => Nat.beq a.toNat o
  | [] => false
noncomputable def dq1 (c : ByteArray) (p o i : Nat) : Bool := match dqL c.data.toList p with
  | a :: b :: _ => Nat.beq a.toNat o && Nat.beq b.toNat i
  | _ => false
noncomputable def dq2 (c : ByteArray) (p o i : Nat) : Bool := match dqL c.data.toList p with
  | a :: b :: d :: _ => Nat.beq a.toNat o && Nat.beq (b.toNat * 256 + d.toNat) i
  | _ => false
noncomputable def dq3 (c : ByteArray) (p o : Nat) (i : Int) : Bool := match dqL c.data.toList p with
  | a :: b :: _ => Nat.beq a.toNat o && decide (Jvm.ClassFile.Reader.signed 8 b.toNat = i)
  | _ => false
noncomputable def dq4 (c : ByteArray) (p o : Nat) (i : Int) : Bool := match dqL c.data.toList p with
  | a :: b :: d :: _ => Nat.beq a.toNat o && decide (Jvm.ClassFile.Reader.signed 16 (b.toNat * 256 + d.toNat) = i)
  | _ => false
noncomputable def dq5 (c : ByteArray) (p o n : Nat) (i : Int) : Bool := match dqL c.data.toList p with
  | a :: b :: d :: _ => Nat.beq a.toNat o && (Nat.beq b.toNat n && decide (Jvm.ClassFile.Reader.signed 8 d.toNat = i))
  | _ => false
theorem dq_0 {c : ByteArray} {p o : Nat} {I : Instr} (ho : ∀ x, dqK.1 x o = (Pure.pure I : Jvm.ClassFile.Decoder Instr)) (h : dq0 c p o = true) : decode c p = .ok (I, 1) := by
  cases hx : dqL c.data.toList p with
  | nil => rw [dq0, hx] at h; cases h
  | cons a t =>
    rw [dq0, hx] at h
    refine dq_dec ((dq_op hx (Nat.eq_of_beq_eq_true h)).trans ?_)
    rw [ho]
    rfl
theorem dq_1 {c : ByteArray} {p o i : Nat} {C : Nat → Instr} (ho : ∀ x, dqK.1 x o = (Jvm.ClassFile.Reader.u1 >>= fun n => Pure.pure (C n))) (h : dq1 c p o i = true) : decode c p = .ok (C i, 2) := by
  rcases hx : dqL c.data.toList p with _ | ⟨a, _ | ⟨b, t⟩⟩
  · rw [dq1, hx] at h; cases h
  · rw [dq1, hx] at h; cases h
  · rw [dq1, hx] at h
    have h1 := Bool.and_eq_true_iff.mp h
    refine dq_dec ((dq_op hx (Nat.eq_of_beq_eq_true h1.1)).trans ?_)
    rw [ho]
    have e := Nat.eq_of_beq_eq_true h1.2
    subst e
    exact (dq_bind (dq_u1 (dq_nx hx))).trans rfl
theorem dq_2 {c : ByteArray} {p o i : Nat} {C : Nat → Instr} (ho : ∀ x, dqK.1 x o = (Jvm.ClassFile.Reader.u2 >>= fun n => Pure.pure (C n))) (h : dq2 c p o i = true) : decode c p = .ok (C i, 3) := by
  rcases hx : dqL c.data.toList p with _ | ⟨a, _ | ⟨b, _ | ⟨d, t⟩⟩⟩
  · rw [dq2, hx] at h; cases h
  · rw [dq2, hx] at h; cases h
  · rw [dq2, hx] at h; cases h
  · rw [dq2, hx] at h
    have h1 := Bool.and_eq_true_iff.mp h
    refine dq_dec ((dq_op hx (Nat.eq_of_beq_eq_true h1.1)).trans ?_)
    rw [ho]
    have e := Nat.eq_of_beq_eq_true h1.2
    subst e
    exact (dq_bind (dq_u2 (dq_nx hx))).trans rfl
theorem dq_3 {c : ByteArray} {p o : Nat} {i : Int} {C : Int → Instr} (ho : ∀ x, dqK.1 x o = (Jvm.ClassFile.Reader.s1 >>= fun n => Pure.pure (C n))) (h : dq3 c p o i = true) : decode c p = .ok (C i, 2) := by
  rcases hx : dqL c.data.toList p with _ | ⟨a, _ | ⟨b, t⟩⟩
  · rw [dq3, hx] at h; cases h
  · rw [dq3, hx] at h; cases h
  · rw [dq3, hx] at h
    have h1 := Bool.and_eq_true_iff.mp h
    refine dq_dec ((dq_op hx (Nat.eq_of_beq_eq_true h1.1)).trans ?_)
    rw [ho]
    have e := of_decide_eq_true h1.2
    subst e
    exact (dq_bind (r := Jvm.ClassFile.Reader.s1) (dq_map (dq_u1 (dq_nx hx)))).trans rfl
theorem dq_4 {c : ByteArray} {p o : Nat} {i : Int} {C : Int → Instr} (ho : ∀ x, dqK.1 x o = (Jvm.ClassFile.Reader.s2 >>= fun n => Pure.pure (C n))) (h : dq4 c p o i = true) : decode c p = .ok (C i, 3) := by
  rcases hx : dqL c.data.toList p with _ | ⟨a, _ | ⟨b, _ | ⟨d, t⟩⟩⟩
  · rw [dq4, hx] at h; cases h
  · rw [dq4, hx] at h; cases h
  · rw [dq4, hx] at h; cases h
  · rw [dq4, hx] at h
    have h1 := Bool.and_eq_true_iff.mp h
    refine dq_dec ((dq_op hx (Nat.eq_of_beq_eq_true h1.1)).trans ?_)
    rw [ho]
    have e := of_decide_eq_true h1.2
    subst e
    exact (dq_bind (r := Jvm.ClassFile.Reader.s2) (dq_map (dq_u2 (dq_nx hx)))).trans rfl
theorem dq_5 {c : ByteArray} {p o n : Nat} {i : Int} {C : Nat → Int → Instr} (ho : ∀ x, dqK.1 x o = (Jvm.ClassFile.Reader.u1 >>= fun n => Jvm.ClassFile.Reader.s1 >>= fun i => Pure.pure (C n i))) (h : dq5 c p o n i = true) : decode c p = .ok (C n i, 3) := by
  rcases hx : dqL c.data.toList p with _ | ⟨a, _ | ⟨b, _ | ⟨d, t⟩⟩⟩
  · rw [dq5, hx] at h; cases h
  · rw [dq5, hx] at h; cases h
  · rw [dq5, hx] at h; cases h
  · rw [dq5, hx] at h
    have h1 := Bool.and_eq_true_iff.mp h
    have h2 := Bool.and_eq_true_iff.mp h1.2
    refine dq_dec ((dq_op hx (Nat.eq_of_beq_eq_true h1.1)).trans ?_)
    rw [ho]
    have e := Nat.eq_of_beq_eq_true h2.1
    have e' := of_decide_eq_true h2.2
    subst e e'
    exact (dq_bind (dq_u1 (dq_nx hx))).trans ((dq_bind (r := Jvm.ClassFile.Reader.s1) (dq_map (dq_u1 (dq_nx (dq_nx hx))))).trans rfl)
theorem dr_2 {c : ByteArray} {p : Nat} (h : dq0 c p 2 = true) : decode c p = .ok (.iconst (-1), 1) := dq_0 (o := 2) (fun _ => rfl) h
theorem dr_3 {c : ByteArray} {p : Nat} (h : dq0 c p 3 = true) : decode c p = .ok (.iconst 0, 1) := dq_0 (o := 3) (fun _ => rfl) h
theorem dr_4 {c : ByteArray} {p : Nat} (h : dq0 c p 4 = true) : decode c p = .ok (.iconst 1, 1) := dq_0 (o := 4) (fun _ => rfl) h
theorem dr_5 {c : ByteArray} {p : Nat} (h : dq0 c p 5 = true) : decode c p = .ok (.iconst 2, 1) := dq_0 (o := 5) (fun _ => rfl) h
theorem dr_6 {c : ByteArray} {p : Nat} (h : dq0 c p 6 = true) : decode c p = .ok (.iconst 3, 1) := dq_0 (o := 6) (fun _ => rfl) h
theorem dr_7 {c : ByteArray} {p : Nat} (h : dq0 c p 7 = true) : decode c p = .ok (.iconst 4, 1) := dq_0 (o := 7) (fun _ => rfl) h
theorem dr_8 {c : ByteArray} {p : Nat} (h : dq0 c p 8 = true) : decode c p = .ok (.iconst 5, 1) := dq_0 (o := 8) (fun _ => rfl) h
theorem dr_9 {c : ByteArray} {p : Nat} (h : dq0 c p 9 = true) : decode c p = .ok (.lconst 0, 1) := dq_0 (o := 9) (fun _ => rfl) h
theorem dr_10 {c : ByteArray} {p : Nat} (h : dq0 c p 10 = true) : decode c p = .ok (.lconst 1, 1) := dq_0 (o := 10) (fun _ => rfl) h
theorem dr_16 {c : ByteArray} {p : Nat} {i : Int} (h : dq3 c p 16 i = true) : decode c p = .ok (.bipush i, 2) := dq_3 (o := 16) (C := fun n => .bipush n) (fun _ => rfl) h
theorem dr_17 {c : ByteArray} {p : Nat} {i : Int} (h : dq4 c p 17 i = true) : decode c p = .ok (.sipush i, 3) := dq_4 (o := 17) (C := fun n => .sipush n) (fun _ => rfl) h
theorem dr_18 {c : ByteArray} {p i : Nat} (h : dq1 c p 18 i = true) : decode c p = .ok (.ldc i, 2) := dq_1 (o := 18) (C := fun n => .ldc n) (fun _ => rfl) h
theorem dr_19 {c : ByteArray} {p i : Nat} (h : dq2 c p 19 i = true) : decode c p = .ok (.ldc_w i, 3) := dq_2 (o := 19) (C := fun n => .ldc_w n) (fun _ => rfl) h
theorem dr_20 {c : ByteArray} {p i : Nat} (h : dq2 c p 20 i = true) : decode c p = .ok (.ldc2_w i, 3) := dq_2 (o := 20) (C := fun n => .ldc2_w n) (fun _ => rfl) h
theorem dr_21 {c : ByteArray} {p i : Nat} (h : dq1 c p 21 i = true) : decode c p = .ok (.iload i, 2) := dq_1 (o := 21) (C := fun n => .iload n) (fun _ => rfl) h
theorem dr_22 {c : ByteArray} {p i : Nat} (h : dq1 c p 22 i = true) : decode c p = .ok (.lload i, 2) := dq_1 (o := 22) (C := fun n => .lload n) (fun _ => rfl) h
theorem dr_26 {c : ByteArray} {p : Nat} (h : dq0 c p 26 = true) : decode c p = .ok (.iload_n 0, 1) := dq_0 (o := 26) (fun _ => rfl) h
theorem dr_27 {c : ByteArray} {p : Nat} (h : dq0 c p 27 = true) : decode c p = .ok (.iload_n 1, 1) := dq_0 (o := 27) (fun _ => rfl) h
theorem dr_28 {c : ByteArray} {p : Nat} (h : dq0 c p 28 = true) : decode c p = .ok (.iload_n 2, 1) := dq_0 (o := 28) (fun _ => rfl) h
theorem dr_29 {c : ByteArray} {p : Nat} (h : dq0 c p 29 = true) : decode c p = .ok (.iload_n 3, 1) := dq_0 (o := 29) (fun _ => rfl) h
theorem dr_30 {c : ByteArray} {p : Nat} (h : dq0 c p 30 = true) : decode c p = .ok (.lload_n 0, 1) := dq_0 (o := 30) (fun _ => rfl) h
theorem dr_31 {c : ByteArray} {p : Nat} (h : dq0 c p 31 = true) : decode c p = .ok (.lload_n 1, 1) := dq_0 (o := 31) (fun _ => rfl) h
theorem dr_32 {c : ByteArray} {p : Nat} (h : dq0 c p 32 = true) : decode c p = .ok (.lload_n 2, 1) := dq_0 (o := 32) (fun _ => rfl) h
theorem dr_33 {c : ByteArray} {p : Nat} (h : dq0 c p 33 = true) : decode c p = .ok (.lload_n 3, 1) := dq_0 (o := 33) (fun _ => rfl) h
theorem dr_42 {c : ByteArray} {p : Nat} (h : dq0 c p 42 = true) : decode c p = .ok (.aload_n 0, 1) := dq_0 (o := 42) (fun _ => rfl) h
theorem dr_43 {c : ByteArray} {p : Nat} (h : dq0 c p 43 = true) : decode c p = .ok (.aload_n 1, 1) := dq_0 (o := 43) (fun _ => rfl) h
theorem dr_44 {c : ByteArray} {p : Nat} (h : dq0 c p 44 = true) : decode c p = .ok (.aload_n 2, 1) := dq_0 (o := 44) (fun _ => rfl) h
theorem dr_45 {c : ByteArray} {p : Nat} (h : dq0 c p 45 = true) : decode c p = .ok (.aload_n 3, 1) := dq_0 (o := 45) (fun _ => rfl) h
theorem dr_46 {c : ByteArray} {p : Nat} (h : dq0 c p 46 = true) : decode c p = .ok (.iaload, 1) := dq_0 (o := 46) (fun _ => rfl) h
theorem dr_47 {c : ByteArray} {p : Nat} (h : dq0 c p 47 = true) : decode c p = .ok (.laload, 1) := dq_0 (o := 47) (fun _ => rfl) h
theorem dr_50 {c : ByteArray} {p : Nat} (h : dq0 c p 50 = true) : decode c p = .ok (.aaload, 1) := dq_0 (o := 50) (fun _ => rfl) h
theorem dr_51 {c : ByteArray} {p : Nat} (h : dq0 c p 51 = true) : decode c p = .ok (.baload, 1) := dq_0 (o := 51) (fun _ => rfl) h
theorem dr_52 {c : ByteArray} {p : Nat} (h : dq0 c p 52 = true) : decode c p = .ok (.caload, 1) := dq_0 (o := 52) (fun _ => rfl) h
theorem dr_54 {c : ByteArray} {p i : Nat} (h : dq1 c p 54 i = true) : decode c p = .ok (.istore i, 2) := dq_1 (o := 54) (C := fun n => .istore n) (fun _ => rfl) h
theorem dr_55 {c : ByteArray} {p i : Nat} (h : dq1 c p 55 i = true) : decode c p = .ok (.lstore i, 2) := dq_1 (o := 55) (C := fun n => .lstore n) (fun _ => rfl) h
theorem dr_58 {c : ByteArray} {p i : Nat} (h : dq1 c p 58 i = true) : decode c p = .ok (.astore i, 2) := dq_1 (o := 58) (C := fun n => .astore n) (fun _ => rfl) h
theorem dr_59 {c : ByteArray} {p : Nat} (h : dq0 c p 59 = true) : decode c p = .ok (.istore_n 0, 1) := dq_0 (o := 59) (fun _ => rfl) h
theorem dr_60 {c : ByteArray} {p : Nat} (h : dq0 c p 60 = true) : decode c p = .ok (.istore_n 1, 1) := dq_0 (o := 60) (fun _ => rfl) h
theorem dr_61 {c : ByteArray} {p : Nat} (h : dq0 c p 61 = true) : decode c p = .ok (.istore_n 2, 1) := dq_0 (o := 61) (fun _ => rfl) h
theorem dr_62 {c : ByteArray} {p : Nat} (h : dq0 c p 62 = true) : decode c p = .ok (.istore_n 3, 1) := dq_0 (o := 62) (fun _ => rfl) h
theorem dr_64 {c : ByteArray} {p : Nat} (h : dq0 c p 64 = true) : decode c p = .ok (.lstore_n 1, 1) := dq_0 (o := 64) (fun _ => rfl) h
theorem dr_65 {c : ByteArray} {p : Nat} (h : dq0 c p 65 = true) : decode c p = .ok (.lstore_n 2, 1) := dq_0 (o := 65) (fun _ => rfl) h
theorem dr_66 {c : ByteArray} {p : Nat} (h : dq0 c p 66 = true) : decode c p = .ok (.lstore_n 3, 1) := dq_0 (o := 66) (fun _ => rfl) h
theorem dr_76 {c : ByteArray} {p : Nat} (h : dq0 c p 76 = true) : decode c p = .ok (.astore_n 1, 1) := dq_0 (o := 76) (fun _ => rfl) h
theorem dr_77 {c : ByteArray} {p : Nat} (h : dq0 c p 77 = true) : decode c p = .ok (.astore_n 2, 1) := dq_0 (o := 77) (fun _ => rfl) h
theorem dr_78 {c : ByteArray} {p : Nat} (h : dq0 c p 78 = true) : decode c p = .ok (.astore_n 3, 1) := dq_0 (o := 78) (fun _ => rfl) h
theorem dr_79 {c : ByteArray} {p : Nat} (h : dq0 c p 79 = true) : decode c p = .ok (.iastore, 1) := dq_0 (o := 79) (fun _ => rfl) h
theorem dr_80 {c : ByteArray} {p : Nat} (h : dq0 c p 80 = true) : decode c p = .ok (.lastore, 1) := dq_0 (o := 80) (fun _ => rfl) h
theorem dr_83 {c : ByteArray} {p : Nat} (h : dq0 c p 83 = true) : decode c p = .ok (.aastore, 1) := dq_0 (o := 83) (fun _ => rfl) h
theorem dr_84 {c : ByteArray} {p : Nat} (h : dq0 c p 84 = true) : decode c p = .ok (.bastore, 1) := dq_0 (o := 84) (fun _ => rfl) h
theorem dr_85 {c : ByteArray} {p : Nat} (h : dq0 c p 85 = true) : decode c p = .ok (.castore, 1) := dq_0 (o := 85) (fun _ => rfl) h
theorem dr_87 {c : ByteArray} {p : Nat} (h : dq0 c p 87 = true) : decode c p = .ok (.pop, 1) := dq_0 (o := 87) (fun _ => rfl) h
theorem dr_89 {c : ByteArray} {p : Nat} (h : dq0 c p 89 = true) : decode c p = .ok (.dup, 1) := dq_0 (o := 89) (fun _ => rfl) h
theorem dr_90 {c : ByteArray} {p : Nat} (h : dq0 c p 90 = true) : decode c p = .ok (.dup_x1, 1) := dq_0 (o := 90) (fun _ => rfl) h
theorem dr_92 {c : ByteArray} {p : Nat} (h : dq0 c p 92 = true) : decode c p = .ok (.dup2, 1) := dq_0 (o := 92) (fun _ => rfl) h
theorem dr_96 {c : ByteArray} {p : Nat} (h : dq0 c p 96 = true) : decode c p = .ok (.iadd, 1) := dq_0 (o := 96) (fun _ => rfl) h
theorem dr_97 {c : ByteArray} {p : Nat} (h : dq0 c p 97 = true) : decode c p = .ok (.ladd, 1) := dq_0 (o := 97) (fun _ => rfl) h
theorem dr_100 {c : ByteArray} {p : Nat} (h : dq0 c p 100 = true) : decode c p = .ok (.isub, 1) := dq_0 (o := 100) (fun _ => rfl) h
theorem dr_101 {c : ByteArray} {p : Nat} (h : dq0 c p 101 = true) : decode c p = .ok (.lsub, 1) := dq_0 (o := 101) (fun _ => rfl) h
theorem dr_104 {c : ByteArray} {p : Nat} (h : dq0 c p 104 = true) : decode c p = .ok (.imul, 1) := dq_0 (o := 104) (fun _ => rfl) h
theorem dr_105 {c : ByteArray} {p : Nat} (h : dq0 c p 105 = true) : decode c p = .ok (.lmul, 1) := dq_0 (o := 105) (fun _ => rfl) h
theorem dr_108 {c : ByteArray} {p : Nat} (h : dq0 c p 108 = true) : decode c p = .ok (.idiv, 1) := dq_0 (o := 108) (fun _ => rfl) h
theorem dr_109 {c : ByteArray} {p : Nat} (h : dq0 c p 109 = true) : decode c p = .ok (.ldiv, 1) := dq_0 (o := 109) (fun _ => rfl) h
theorem dr_112 {c : ByteArray} {p : Nat} (h : dq0 c p 112 = true) : decode c p = .ok (.irem, 1) := dq_0 (o := 112) (fun _ => rfl) h
theorem dr_113 {c : ByteArray} {p : Nat} (h : dq0 c p 113 = true) : decode c p = .ok (.lrem, 1) := dq_0 (o := 113) (fun _ => rfl) h
theorem dr_116 {c : ByteArray} {p : Nat} (h : dq0 c p 116 = true) : decode c p = .ok (.ineg, 1) := dq_0 (o := 116) (fun _ => rfl) h
theorem dr_120 {c : ByteArray} {p : Nat} (h : dq0 c p 120 = true) : decode c p = .ok (.ishl, 1) := dq_0 (o := 120) (fun _ => rfl) h
theorem dr_121 {c : ByteArray} {p : Nat} (h : dq0 c p 121 = true) : decode c p = .ok (.lshl, 1) := dq_0 (o := 121) (fun _ => rfl) h
theorem dr_122 {c : ByteArray} {p : Nat} (h : dq0 c p 122 = true) : decode c p = .ok (.ishr, 1) := dq_0 (o := 122) (fun _ => rfl) h
theorem dr_123 {c : ByteArray} {p : Nat} (h : dq0 c p 123 = true) : decode c p = .ok (.lshr, 1) := dq_0 (o := 123) (fun _ => rfl) h
theorem dr_124 {c : ByteArray} {p : Nat} (h : dq0 c p 124 = true) : decode c p = .ok (.iushr, 1) := dq_0 (o := 124) (fun _ => rfl) h
theorem dr_125 {c : ByteArray} {p : Nat} (h : dq0 c p 125 = true) : decode c p = .ok (.lushr, 1) := dq_0 (o := 125) (fun _ => rfl) h
theorem dr_126 {c : ByteArray} {p : Nat} (h : dq0 c p 126 = true) : decode c p = .ok (.iand, 1) := dq_0 (o := 126) (fun _ => rfl) h
theorem dr_127 {c : ByteArray} {p : Nat} (h : dq0 c p 127 = true) : decode c p = .ok (.land, 1) := dq_0 (o := 127) (fun _ => rfl) h
theorem dr_128 {c : ByteArray} {p : Nat} (h : dq0 c p 128 = true) : decode c p = .ok (.ior, 1) := dq_0 (o := 128) (fun _ => rfl) h
theorem dr_129 {c : ByteArray} {p : Nat} (h : dq0 c p 129 = true) : decode c p = .ok (.lor, 1) := dq_0 (o := 129) (fun _ => rfl) h
theorem dr_130 {c : ByteArray} {p : Nat} (h : dq0 c p 130 = true) : decode c p = .ok (.ixor, 1) := dq_0 (o := 130) (fun _ => rfl) h
theorem dr_131 {c : ByteArray} {p : Nat} (h : dq0 c p 131 = true) : decode c p = .ok (.lxor, 1) := dq_0 (o := 131) (fun _ => rfl) h
theorem dr_132 {c : ByteArray} {p n : Nat} {i : Int} (h : dq5 c p 132 n i = true) : decode c p = .ok (.iinc n i, 3) := dq_5 (o := 132) (C := fun n i => .iinc n i) (fun _ => rfl) h
theorem dr_133 {c : ByteArray} {p : Nat} (h : dq0 c p 133 = true) : decode c p = .ok (.i2l, 1) := dq_0 (o := 133) (fun _ => rfl) h
theorem dr_136 {c : ByteArray} {p : Nat} (h : dq0 c p 136 = true) : decode c p = .ok (.l2i, 1) := dq_0 (o := 136) (fun _ => rfl) h
theorem dr_145 {c : ByteArray} {p : Nat} (h : dq0 c p 145 = true) : decode c p = .ok (.i2b, 1) := dq_0 (o := 145) (fun _ => rfl) h
theorem dr_146 {c : ByteArray} {p : Nat} (h : dq0 c p 146 = true) : decode c p = .ok (.i2c, 1) := dq_0 (o := 146) (fun _ => rfl) h
theorem dr_147 {c : ByteArray} {p : Nat} (h : dq0 c p 147 = true) : decode c p = .ok (.i2s, 1) := dq_0 (o := 147) (fun _ => rfl) h
theorem dr_148 {c : ByteArray} {p : Nat} (h : dq0 c p 148 = true) : decode c p = .ok (.lcmp, 1) := dq_0 (o := 148) (fun _ => rfl) h
theorem dr_153 {c : ByteArray} {p : Nat} {i : Int} (h : dq4 c p 153 i = true) : decode c p = .ok (.ifCond .eq i, 3) := dq_4 (o := 153) (C := fun n => .ifCond .eq n) (fun _ => rfl) h
theorem dr_154 {c : ByteArray} {p : Nat} {i : Int} (h : dq4 c p 154 i = true) : decode c p = .ok (.ifCond .ne i, 3) := dq_4 (o := 154) (C := fun n => .ifCond .ne n) (fun _ => rfl) h
theorem dr_155 {c : ByteArray} {p : Nat} {i : Int} (h : dq4 c p 155 i = true) : decode c p = .ok (.ifCond .lt i, 3) := dq_4 (o := 155) (C := fun n => .ifCond .lt n) (fun _ => rfl) h
theorem dr_156 {c : ByteArray} {p : Nat} {i : Int} (h : dq4 c p 156 i = true) : decode c p = .ok (.ifCond .ge i, 3) := dq_4 (o := 156) (C := fun n => .ifCond .ge n) (fun _ => rfl) h
theorem dr_157 {c : ByteArray} {p : Nat} {i : Int} (h : dq4 c p 157 i = true) : decode c p = .ok (.ifCond .gt i, 3) := dq_4 (o := 157) (C := fun n => .ifCond .gt n) (fun _ => rfl) h
theorem dr_158 {c : ByteArray} {p : Nat} {i : Int} (h : dq4 c p 158 i = true) : decode c p = .ok (.ifCond .le i, 3) := dq_4 (o := 158) (C := fun n => .ifCond .le n) (fun _ => rfl) h
theorem dr_159 {c : ByteArray} {p : Nat} {i : Int} (h : dq4 c p 159 i = true) : decode c p = .ok (.if_icmp .eq i, 3) := dq_4 (o := 159) (C := fun n => .if_icmp .eq n) (fun _ => rfl) h
theorem dr_160 {c : ByteArray} {p : Nat} {i : Int} (h : dq4 c p 160 i = true) : decode c p = .ok (.if_icmp .ne i, 3) := dq_4 (o := 160) (C := fun n => .if_icmp .ne n) (fun _ => rfl) h
theorem dr_161 {c : ByteArray} {p : Nat} {i : Int} (h : dq4 c p 161 i = true) : decode c p = .ok (.if_icmp .lt i, 3) := dq_4 (o := 161) (C := fun n => .if_icmp .lt n) (fun _ => rfl) h
theorem dr_162 {c : ByteArray} {p : Nat} {i : Int} (h : dq4 c p 162 i = true) : decode c p = .ok (.if_icmp .ge i, 3) := dq_4 (o := 162) (C := fun n => .if_icmp .ge n) (fun _ => rfl) h
theorem dr_163 {c : ByteArray} {p : Nat} {i : Int} (h : dq4 c p 163 i = true) : decode c p = .ok (.if_icmp .gt i, 3) := dq_4 (o := 163) (C := fun n => .if_icmp .gt n) (fun _ => rfl) h
theorem dr_164 {c : ByteArray} {p : Nat} {i : Int} (h : dq4 c p 164 i = true) : decode c p = .ok (.if_icmp .le i, 3) := dq_4 (o := 164) (C := fun n => .if_icmp .le n) (fun _ => rfl) h
theorem dr_167 {c : ByteArray} {p : Nat} {i : Int} (h : dq4 c p 167 i = true) : decode c p = .ok (.goto i, 3) := dq_4 (o := 167) (C := fun n => .goto n) (fun _ => rfl) h
theorem dr_172 {c : ByteArray} {p : Nat} (h : dq0 c p 172 = true) : decode c p = .ok (.ireturn, 1) := dq_0 (o := 172) (fun _ => rfl) h
theorem dr_173 {c : ByteArray} {p : Nat} (h : dq0 c p 173 = true) : decode c p = .ok (.lreturn, 1) := dq_0 (o := 173) (fun _ => rfl) h
theorem dr_177 {c : ByteArray} {p : Nat} (h : dq0 c p 177 = true) : decode c p = .ok (.return_, 1) := dq_0 (o := 177) (fun _ => rfl) h
theorem dr_180 {c : ByteArray} {p i : Nat} (h : dq2 c p 180 i = true) : decode c p = .ok (.getfield i, 3) := dq_2 (o := 180) (C := fun n => .getfield n) (fun _ => rfl) h
theorem dr_181 {c : ByteArray} {p i : Nat} (h : dq2 c p 181 i = true) : decode c p = .ok (.putfield i, 3) := dq_2 (o := 181) (C := fun n => .putfield n) (fun _ => rfl) h
theorem dr_182 {c : ByteArray} {p i : Nat} (h : dq2 c p 182 i = true) : decode c p = .ok (.invokevirtual i, 3) := dq_2 (o := 182) (C := fun n => .invokevirtual n) (fun _ => rfl) h
theorem dr_183 {c : ByteArray} {p i : Nat} (h : dq2 c p 183 i = true) : decode c p = .ok (.invokespecial i, 3) := dq_2 (o := 183) (C := fun n => .invokespecial n) (fun _ => rfl) h
theorem dr_184 {c : ByteArray} {p i : Nat} (h : dq2 c p 184 i = true) : decode c p = .ok (.invokestatic i, 3) := dq_2 (o := 184) (C := fun n => .invokestatic n) (fun _ => rfl) h
theorem dr_187 {c : ByteArray} {p i : Nat} (h : dq2 c p 187 i = true) : decode c p = .ok (.new i, 3) := dq_2 (o := 187) (C := fun n => .new n) (fun _ => rfl) h
theorem dr_189 {c : ByteArray} {p i : Nat} (h : dq2 c p 189 i = true) : decode c p = .ok (.anewarray i, 3) := dq_2 (o := 189) (C := fun n => .anewarray n) (fun _ => rfl) h
theorem dr_190 {c : ByteArray} {p : Nat} (h : dq0 c p 190 = true) : decode c p = .ok (.arraylength, 1) := dq_0 (o := 190) (fun _ => rfl) h
theorem dr_191 {c : ByteArray} {p : Nat} (h : dq0 c p 191 = true) : decode c p = .ok (.athrow, 1) := dq_0 (o := 191) (fun _ => rfl) h
end DQ
end
section
-- ===== PART A: goes FIRST, ahead of the names: the tables' words, and 'selects' of the private methods out of them =====
/-- a private method of a class that the tables say can be made, by its rows of tables_1 -/
def lw_okq (q : MethodName × Nat) : Prop := (q.1.cls ≠ "java/lang/invoke/MethodHandle" ∧ q.1.cls ≠ "java/lang/invoke/VarHandle") ∧ Cond.instantiable q.1.cls q.2 ∈ tables_1 ∧ Cond.privateMethod q.1 ∈ tables_1 ∧ Cond.instanceMethod q.1 ∈ tables_1
theorem mt1 {w : Cond} (h : w ∈ tables_1_1) : w ∈ tables_1 := show w ∈ tables_1_1 ++ (tables_1_2 ++ (tables_1_3 ++ (tables_1_4 ++ (tables_1_5 ++ (tables_1_6 ++ (tables_1_7 ++ (tables_1_8))))))) from List.mem_append_left _ h
theorem mt2 {w : Cond} (h : w ∈ tables_1_2) : w ∈ tables_1 := show w ∈ tables_1_1 ++ (tables_1_2 ++ (tables_1_3 ++ (tables_1_4 ++ (tables_1_5 ++ (tables_1_6 ++ (tables_1_7 ++ (tables_1_8))))))) from List.mem_append_right _ (List.mem_append_left _ h)
theorem mt3 {w : Cond} (h : w ∈ tables_1_3) : w ∈ tables_1 := show w ∈ tables_1_1 ++ (tables_1_2 ++ (tables_1_3 ++ (tables_1_4 ++ (tables_1_5 ++ (tables_1_6 ++ (tables_1_7 ++ (tables_1_8))))))) from List.mem_append_right _ (List.mem_append_right _ (List.mem_append_left _ h))
theorem mt4 {w : Cond} (h : w ∈ tables_1_4) : w ∈ tables_1 := show w ∈ tables_1_1 ++ (tables_1_2 ++ (tables_1_3 ++ (tables_1_4 ++ (tables_1_5 ++ (tables_1_6 ++ (tables_1_7 ++ (tables_1_8))))))) from List.mem_append_right _ (List.mem_append_right _ (List.mem_append_right _ (List.mem_append_left _ h)))
theorem mt5 {w : Cond} (h : w ∈ tables_1_5) : w ∈ tables_1 := show w ∈ tables_1_1 ++ (tables_1_2 ++ (tables_1_3 ++ (tables_1_4 ++ (tables_1_5 ++ (tables_1_6 ++ (tables_1_7 ++ (tables_1_8))))))) from List.mem_append_right _ (List.mem_append_right _ (List.mem_append_right _ (List.mem_append_right _ (List.mem_append_left _ h))))
theorem mt6 {w : Cond} (h : w ∈ tables_1_6) : w ∈ tables_1 := show w ∈ tables_1_1 ++ (tables_1_2 ++ (tables_1_3 ++ (tables_1_4 ++ (tables_1_5 ++ (tables_1_6 ++ (tables_1_7 ++ (tables_1_8))))))) from List.mem_append_right _ (List.mem_append_right _ (List.mem_append_right _ (List.mem_append_right _ (List.mem_append_right _ (List.mem_append_left _ h)))))
theorem mt7 {w : Cond} (h : w ∈ tables_1_7) : w ∈ tables_1 := show w ∈ tables_1_1 ++ (tables_1_2 ++ (tables_1_3 ++ (tables_1_4 ++ (tables_1_5 ++ (tables_1_6 ++ (tables_1_7 ++ (tables_1_8))))))) from List.mem_append_right _ (List.mem_append_right _ (List.mem_append_right _ (List.mem_append_right _ (List.mem_append_right _ (List.mem_append_right _ (List.mem_append_left _ h))))))
theorem mt8 {w : Cond} (h : w ∈ tables_1_8) : w ∈ tables_1 := show w ∈ tables_1_1 ++ (tables_1_2 ++ (tables_1_3 ++ (tables_1_4 ++ (tables_1_5 ++ (tables_1_6 ++ (tables_1_7 ++ (tables_1_8))))))) from List.mem_append_right _ (List.mem_append_right _ (List.mem_append_right _ (List.mem_append_right _ (List.mem_append_right _ (List.mem_append_right _ (List.mem_append_right _ (h)))))))
theorem lw_p0 : lw_okq (⟨"WinnerTeaches$Roster", "take", "(C)Z"⟩, 8) := ⟨⟨by decide +kernel, by decide +kernel⟩, mt1 (mq_mem (n := 133) rfl), mt3 (mq_mem (n := 0) rfl), mt3 (mq_mem (n := 1) rfl)⟩
theorem lw_p1 : lw_okq (⟨"WinnerTeaches$Roster", "canEnd", "()Z"⟩, 8) := ⟨⟨by decide +kernel, by decide +kernel⟩, mt1 (mq_mem (n := 133) rfl), mt3 (mq_mem (n := 4) rfl), mt3 (mq_mem (n := 5) rfl)⟩
theorem lw_p2 : lw_okq (⟨"WinnerTeaches$Roster", "takeLine", "(C)Z"⟩, 8) := ⟨⟨by decide +kernel, by decide +kernel⟩, mt1 (mq_mem (n := 133) rfl), mt3 (mq_mem (n := 8) rfl), mt3 (mq_mem (n := 9) rfl)⟩
theorem lw_p3 : lw_okq (⟨"WinnerTeaches$Roster", "takeSkill", "(I)Z"⟩, 8) := ⟨⟨by decide +kernel, by decide +kernel⟩, mt1 (mq_mem (n := 133) rfl), mt3 (mq_mem (n := 20) rfl), mt3 (mq_mem (n := 21) rfl)⟩
theorem lw_p4 : lw_okq (⟨"WinnerTeaches$Roster", "takeArts", "(I)Z"⟩, 8) := ⟨⟨by decide +kernel, by decide +kernel⟩, mt1 (mq_mem (n := 133) rfl), mt3 (mq_mem (n := 25) rfl), mt3 (mq_mem (n := 26) rfl)⟩
theorem lw_p5 : lw_okq (⟨"WinnerTeaches$Roster", "takeIll", "(C)Z"⟩, 8) := ⟨⟨by decide +kernel, by decide +kernel⟩, mt1 (mq_mem (n := 133) rfl), mt3 (mq_mem (n := 29) rfl), mt3 (mq_mem (n := 30) rfl)⟩
theorem lw_p6 : lw_okq (⟨"WinnerTeaches$Rule", "take", "(C)Z"⟩, 9) := ⟨⟨by decide +kernel, by decide +kernel⟩, mt1 (mq_mem (n := 57) rfl), mt3 (mq_mem (n := 50) rfl), mt3 (mq_mem (n := 51) rfl)⟩
theorem lw_p7 : lw_okq (⟨"WinnerTeaches$Rule", "takeDigit", "(I)Z"⟩, 9) := ⟨⟨by decide +kernel, by decide +kernel⟩, mt1 (mq_mem (n := 57) rfl), mt3 (mq_mem (n := 54) rfl), mt3 (mq_mem (n := 55) rfl)⟩
theorem lw_p8 : lw_okq (⟨"WinnerTeaches$Rule", "emit", "(I)V"⟩, 9) := ⟨⟨by decide +kernel, by decide +kernel⟩, mt1 (mq_mem (n := 57) rfl), mt3 (mq_mem (n := 58) rfl), mt3 (mq_mem (n := 59) rfl)⟩
theorem lw_p9 : lw_okq (⟨"WinnerTeaches$Rule", "takeThing", "(C)Z"⟩, 9) := ⟨⟨by decide +kernel, by decide +kernel⟩, mt1 (mq_mem (n := 57) rfl), mt3 (mq_mem (n := 62) rfl), mt3 (mq_mem (n := 63) rfl)⟩
theorem lw_p10 : lw_okq (⟨"WinnerTeaches$Rule", "hold", "(I)V"⟩, 9) := ⟨⟨by decide +kernel, by decide +kernel⟩, mt1 (mq_mem (n := 57) rfl), mt3 (mq_mem (n := 66) rfl), mt3 (mq_mem (n := 67) rfl)⟩
theorem lw_p11 : lw_okq (⟨"WinnerTeaches$Rule", "takeJoin", "(C)Z"⟩, 9) := ⟨⟨by decide +kernel, by decide +kernel⟩, mt1 (mq_mem (n := 57) rfl), mt3 (mq_mem (n := 73) rfl), mt3 (mq_mem (n := 74) rfl)⟩
theorem lw_p12 : lw_okq (⟨"WinnerTeaches$Rule", "release", "(I)V"⟩, 9) := ⟨⟨by decide +kernel, by decide +kernel⟩, mt1 (mq_mem (n := 57) rfl), mt3 (mq_mem (n := 77) rfl), mt3 (mq_mem (n := 78) rfl)⟩
theorem lw_p13 : lw_okq (⟨"WinnerTeaches$Plan", "openRound", "()V"⟩, 9) := ⟨⟨by decide +kernel, by decide +kernel⟩, mt1 (mq_mem (n := 221) rfl), mt3 (mq_mem (n := 96) rfl), mt3 (mq_mem (n := 97) rfl)⟩
theorem lw_p14 : lw_okq (⟨"WinnerTeaches$Plan", "take", "(CI)Z"⟩, 9) := ⟨⟨by decide +kernel, by decide +kernel⟩, mt1 (mq_mem (n := 221) rfl), mt3 (mq_mem (n := 101) rfl), mt3 (mq_mem (n := 102) rfl)⟩
theorem lw_p15 : lw_okq (⟨"WinnerTeaches$Plan", "takeSide", "(II)Z"⟩, 9) := ⟨⟨by decide +kernel, by decide +kernel⟩, mt1 (mq_mem (n := 221) rfl), mt3 (mq_mem (n := 105) rfl), mt3 (mq_mem (n := 106) rfl)⟩
def lw_privs_1 : List (MethodName × Nat) := [(⟨"WinnerTeaches$Roster", "take", "(C)Z"⟩, 8), (⟨"WinnerTeaches$Roster", "canEnd", "()Z"⟩, 8), (⟨"WinnerTeaches$Roster", "takeLine", "(C)Z"⟩, 8), (⟨"WinnerTeaches$Roster", "takeSkill", "(I)Z"⟩, 8), (⟨"WinnerTeaches$Roster", "takeArts", "(I)Z"⟩, 8), (⟨"WinnerTeaches$Roster", "takeIll", "(C)Z"⟩, 8), (⟨"WinnerTeaches$Rule", "take", "(C)Z"⟩, 9), (⟨"WinnerTeaches$Rule", "takeDigit", "(I)Z"⟩, 9), (⟨"WinnerTeaches$Rule", "emit", "(I)V"⟩, 9), (⟨"WinnerTeaches$Rule", "takeThing", "(C)Z"⟩, 9), (⟨"WinnerTeaches$Rule", "hold", "(I)V"⟩, 9), (⟨"WinnerTeaches$Rule", "takeJoin", "(C)Z"⟩, 9), (⟨"WinnerTeaches$Rule", "release", "(I)V"⟩, 9), (⟨"WinnerTeaches$Plan", "openRound", "()V"⟩, 9), (⟨"WinnerTeaches$Plan", "take", "(CI)Z"⟩, 9), (⟨"WinnerTeaches$Plan", "takeSide", "(II)Z"⟩, 9)]
theorem lw_r1 : ∀ q ∈ lw_privs_1, lw_okq q := List.forall_mem_cons.mpr ⟨lw_p0, List.forall_mem_cons.mpr ⟨lw_p1, List.forall_mem_cons.mpr ⟨lw_p2, List.forall_mem_cons.mpr ⟨lw_p3, List.forall_mem_cons.mpr ⟨lw_p4, List.forall_mem_cons.mpr ⟨lw_p5, List.forall_mem_cons.mpr ⟨lw_p6, List.forall_mem_cons.mpr ⟨lw_p7, List.forall_mem_cons.mpr ⟨lw_p8, List.forall_mem_cons.mpr ⟨lw_p9, List.forall_mem_cons.mpr ⟨lw_p10, List.forall_mem_cons.mpr ⟨lw_p11, List.forall_mem_cons.mpr ⟨lw_p12, List.forall_mem_cons.mpr ⟨lw_p13, List.forall_mem_cons.mpr ⟨lw_p14, List.forall_mem_cons.mpr ⟨lw_p15, fun _ h => absurd h List.not_mem_nil⟩⟩⟩⟩⟩⟩⟩⟩⟩⟩⟩⟩⟩⟩⟩⟩
theorem lw_p16 : lw_okq (⟨"WinnerTeaches$Plan", "addGame", "(III)V"⟩, 9) := ⟨⟨by decide +kernel, by decide +kernel⟩, mt1 (mq_mem (n := 221) rfl), mt3 (mq_mem (n := 109) rfl), mt3 (mq_mem (n := 110) rfl)⟩
theorem lw_p17 : lw_okq (⟨"WinnerTeaches$Plan", "takeThrow", "(CII)Z"⟩, 9) := ⟨⟨by decide +kernel, by decide +kernel⟩, mt1 (mq_mem (n := 221) rfl), mt3 (mq_mem (n := 113) rfl), mt3 (mq_mem (n := 114) rfl)⟩
theorem lw_p18 : lw_okq (⟨"WinnerTeaches$Plan", "takeDash", "(C)Z"⟩, 9) := ⟨⟨by decide +kernel, by decide +kernel⟩, mt1 (mq_mem (n := 221) rfl), mt3 (mq_mem (n := 117) rfl), mt3 (mq_mem (n := 118) rfl)⟩
theorem lw_p19 : lw_okq (⟨"WinnerTeaches$Plan", "takeBreak", "(C)Z"⟩, 9) := ⟨⟨by decide +kernel, by decide +kernel⟩, mt1 (mq_mem (n := 221) rfl), mt3 (mq_mem (n := 121) rfl), mt3 (mq_mem (n := 122) rfl)⟩
theorem lw_p20 : lw_okq (⟨"WinnerTeaches$Plan", "turnPlaces", "(I)V"⟩, 9) := ⟨⟨by decide +kernel, by decide +kernel⟩, mt1 (mq_mem (n := 221) rfl), mt3 (mq_mem (n := 180) rfl), mt3 (mq_mem (n := 181) rfl)⟩
theorem lw_p21 : lw_okq (⟨"WinnerTeaches$League", "teach", "(LWinnerTeaches$Standing;IIZ)V"⟩, 8) := ⟨⟨by decide +kernel, by decide +kernel⟩, mt1 (mq_mem (n := 51) rfl), mt3 (mq_mem (n := 230) rfl), mt3 (mq_mem (n := 231) rfl)⟩
theorem lw_p22 : lw_okq (⟨"WinnerTeaches", "tell", "(JJ)V"⟩, 19) := ⟨⟨by decide +kernel, by decide +kernel⟩, mt1 (mq_mem (n := 22) rfl), mt4 (mq_mem (n := 6) rfl), mt4 (mq_mem (n := 7) rfl)⟩
theorem lw_p23 : lw_okq (⟨"WinnerTeaches", "playNow", "(III)I"⟩, 19) := ⟨⟨by decide +kernel, by decide +kernel⟩, mt1 (mq_mem (n := 22) rfl), mt4 (mq_mem (n := 22) rfl), mt4 (mq_mem (n := 23) rfl)⟩
theorem lw_p24 : lw_okq (⟨"WinnerTeaches", "playTold", "(I)Z"⟩, 19) := ⟨⟨by decide +kernel, by decide +kernel⟩, mt1 (mq_mem (n := 22) rfl), mt4 (mq_mem (n := 50) rfl), mt4 (mq_mem (n := 51) rfl)⟩
theorem lw_p25 : lw_okq (⟨"WinnerTeaches", "tell", "(J)V"⟩, 19) := ⟨⟨by decide +kernel, by decide +kernel⟩, mt1 (mq_mem (n := 22) rfl), mt4 (mq_mem (n := 59) rfl), mt4 (mq_mem (n := 60) rfl)⟩
theorem lw_p26 : lw_okq (⟨"WinnerTeaches", "sidesWithResult", "(II)I"⟩, 19) := ⟨⟨by decide +kernel, by decide +kernel⟩, mt1 (mq_mem (n := 22) rfl), mt4 (mq_mem (n := 79) rfl), mt4 (mq_mem (n := 80) rfl)⟩
theorem lw_p27 : lw_okq (⟨"WinnerTeaches", "isKing", "(I)Z"⟩, 19) := ⟨⟨by decide +kernel, by decide +kernel⟩, mt1 (mq_mem (n := 22) rfl), mt4 (mq_mem (n := 87) rfl), mt4 (mq_mem (n := 88) rfl)⟩
theorem lw_p28 : lw_okq (⟨"WinnerTeaches", "tell", "(JJJ)V"⟩, 19) := ⟨⟨by decide +kernel, by decide +kernel⟩, mt1 (mq_mem (n := 22) rfl), mt4 (mq_mem (n := 96) rfl), mt4 (mq_mem (n := 97) rfl)⟩
theorem lw_p29 : lw_okq (⟨"WinnerTeaches", "standsAhead", "(II)Z"⟩, 19) := ⟨⟨by decide +kernel, by decide +kernel⟩, mt1 (mq_mem (n := 22) rfl), mt4 (mq_mem (n := 108) rfl), mt4 (mq_mem (n := 109) rfl)⟩
theorem lw_p30 : lw_okq (⟨"WinnerTeaches$Season", "playTurn", "(LWinnerTeaches$League;LWinnerTeaches$Plan;)V"⟩, 6) := ⟨⟨by decide +kernel, by decide +kernel⟩, mt2 (mq_mem (n := 90) rfl), mt4 (mq_mem (n := 152) rfl), mt4 (mq_mem (n := 153) rfl)⟩
theorem lw_p31 : lw_okq (⟨"WinnerTeaches", "tellFraction", "(JJ)V"⟩, 19) := ⟨⟨by decide +kernel, by decide +kernel⟩, mt1 (mq_mem (n := 22) rfl), mt4 (mq_mem (n := 175) rfl), mt4 (mq_mem (n := 176) rfl)⟩
def lw_privs_2 : List (MethodName × Nat) := [(⟨"WinnerTeaches$Plan", "addGame", "(III)V"⟩, 9), (⟨"WinnerTeaches$Plan", "takeThrow", "(CII)Z"⟩, 9), (⟨"WinnerTeaches$Plan", "takeDash", "(C)Z"⟩, 9), (⟨"WinnerTeaches$Plan", "takeBreak", "(C)Z"⟩, 9), (⟨"WinnerTeaches$Plan", "turnPlaces", "(I)V"⟩, 9), (⟨"WinnerTeaches$League", "teach", "(LWinnerTeaches$Standing;IIZ)V"⟩, 8), (⟨"WinnerTeaches", "tell", "(JJ)V"⟩, 19), (⟨"WinnerTeaches", "playNow", "(III)I"⟩, 19), (⟨"WinnerTeaches", "playTold", "(I)Z"⟩, 19), (⟨"WinnerTeaches", "tell", "(J)V"⟩, 19), (⟨"WinnerTeaches", "sidesWithResult", "(II)I"⟩, 19), (⟨"WinnerTeaches", "isKing", "(I)Z"⟩, 19), (⟨"WinnerTeaches", "tell", "(JJJ)V"⟩, 19), (⟨"WinnerTeaches", "standsAhead", "(II)Z"⟩, 19), (⟨"WinnerTeaches$Season", "playTurn", "(LWinnerTeaches$League;LWinnerTeaches$Plan;)V"⟩, 6), (⟨"WinnerTeaches", "tellFraction", "(JJ)V"⟩, 19)]
theorem lw_r2 : ∀ q ∈ lw_privs_2, lw_okq q := List.forall_mem_cons.mpr ⟨lw_p16, List.forall_mem_cons.mpr ⟨lw_p17, List.forall_mem_cons.mpr ⟨lw_p18, List.forall_mem_cons.mpr ⟨lw_p19, List.forall_mem_cons.mpr ⟨lw_p20, List.forall_mem_cons.mpr ⟨lw_p21, List.forall_mem_cons.mpr ⟨lw_p22, List.forall_mem_cons.mpr ⟨lw_p23, List.forall_mem_cons.mpr ⟨lw_p24, List.forall_mem_cons.mpr ⟨lw_p25, List.forall_mem_cons.mpr ⟨lw_p26, List.forall_mem_cons.mpr ⟨lw_p27, List.forall_mem_cons.mpr ⟨lw_p28, List.forall_mem_cons.mpr ⟨lw_p29, List.forall_mem_cons.mpr ⟨lw_p30, List.forall_mem_cons.mpr ⟨lw_p31, fun _ h => absurd h List.not_mem_nil⟩⟩⟩⟩⟩⟩⟩⟩⟩⟩⟩⟩⟩⟩⟩⟩
theorem lw_p32 : lw_okq (⟨"WinnerTeaches$Season", "followGame", "(LWinnerTeaches$League;LWinnerTeaches$Plan;IZ)V"⟩, 6) := ⟨⟨by decide +kernel, by decide +kernel⟩, mt2 (mq_mem (n := 90) rfl), mt4 (mq_mem (n := 195) rfl), mt4 (mq_mem (n := 196) rfl)⟩
theorem lw_p33 : lw_okq (⟨"WinnerTeaches$Search", "expand", "(LWinnerTeaches$League;I)Z"⟩, 7) := ⟨⟨by decide +kernel, by decide +kernel⟩, mt2 (mq_mem (n := 57) rfl), mt4 (mq_mem (n := 220) rfl), mt4 (mq_mem (n := 221) rfl)⟩
theorem lw_p34 : lw_okq (⟨"WinnerTeaches$Search", "unpackAll", "(LWinnerTeaches$League;I)V"⟩, 7) := ⟨⟨by decide +kernel, by decide +kernel⟩, mt2 (mq_mem (n := 57) rfl), mt4 (mq_mem (n := 224) rfl), mt4 (mq_mem (n := 225) rfl)⟩
theorem lw_p35 : lw_okq (⟨"WinnerTeaches$Search", "step", "(LWinnerTeaches$League;IIII)Z"⟩, 7) := ⟨⟨by decide +kernel, by decide +kernel⟩, mt2 (mq_mem (n := 57) rfl), mt4 (mq_mem (n := 234) rfl), mt4 (mq_mem (n := 235) rfl)⟩
theorem lw_p36 : lw_okq (⟨"WinnerTeaches$Search", "halfAfter", "(IIIZ)J"⟩, 7) := ⟨⟨by decide +kernel, by decide +kernel⟩, mt2 (mq_mem (n := 57) rfl), mt5 (mq_mem (n := 0) rfl), mt5 (mq_mem (n := 1) rfl)⟩
theorem lw_p37 : lw_okq (⟨"WinnerTeaches", "tellWayTo", "(I)I"⟩, 19) := ⟨⟨by decide +kernel, by decide +kernel⟩, mt1 (mq_mem (n := 22) rfl), mt5 (mq_mem (n := 11) rfl), mt5 (mq_mem (n := 12) rfl)⟩
theorem lw_p38 : lw_okq (⟨"WinnerTeaches", "powerAfter", "(IIII)I"⟩, 19) := ⟨⟨by decide +kernel, by decide +kernel⟩, mt1 (mq_mem (n := 22) rfl), mt5 (mq_mem (n := 53) rfl), mt5 (mq_mem (n := 54) rfl)⟩
theorem lw_p39 : lw_okq (⟨"WinnerTeaches", "countThrowers", "(I)V"⟩, 19) := ⟨⟨by decide +kernel, by decide +kernel⟩, mt1 (mq_mem (n := 22) rfl), mt5 (mq_mem (n := 70) rfl), mt5 (mq_mem (n := 71) rfl)⟩
theorem lw_p40 : lw_okq (⟨"WinnerTeaches", "playAhead", "(I)V"⟩, 19) := ⟨⟨by decide +kernel, by decide +kernel⟩, mt1 (mq_mem (n := 22) rfl), mt5 (mq_mem (n := 89) rfl), mt5 (mq_mem (n := 90) rfl)⟩
theorem lw_p41 : lw_okq (⟨"java/lang/Throwable", "fillInStackTrace", "(I)Ljava/lang/Throwable;"⟩, 6) := ⟨⟨by decide +kernel, by decide +kernel⟩, mt5 (mq_mem (n := 167) rfl), mt5 (mq_mem (n := 165) rfl), mt5 (mq_mem (n := 166) rfl)⟩
theorem lw_p42 : lw_okq (⟨"WinnerTeachesModel", "begin", "([BII)V"⟩, 57) := ⟨⟨by decide +kernel, by decide +kernel⟩, mt5 (mq_mem (n := 200) rfl), mt6 (mq_mem (n := 158) rfl), mt6 (mq_mem (n := 159) rfl)⟩
theorem lw_p43 : lw_okq (⟨"WinnerTeachesModel", "fine", "()Z"⟩, 57) := ⟨⟨by decide +kernel, by decide +kernel⟩, mt5 (mq_mem (n := 200) rfl), mt6 (mq_mem (n := 162) rfl), mt6 (mq_mem (n := 163) rfl)⟩
theorem lw_p44 : lw_okq (⟨"WinnerTeachesModel", "passes", "(C)Z"⟩, 57) := ⟨⟨by decide +kernel, by decide +kernel⟩, mt5 (mq_mem (n := 200) rfl), mt6 (mq_mem (n := 166) rfl), mt6 (mq_mem (n := 167) rfl)⟩
theorem lw_p45 : lw_okq (⟨"WinnerTeachesModel", "here", "()I"⟩, 57) := ⟨⟨by decide +kernel, by decide +kernel⟩, mt5 (mq_mem (n := 200) rfl), mt6 (mq_mem (n := 170) rfl), mt6 (mq_mem (n := 171) rfl)⟩
theorem lw_p46 : lw_okq (⟨"WinnerTeachesModel", "digit", "(II)I"⟩, 57) := ⟨⟨by decide +kernel, by decide +kernel⟩, mt5 (mq_mem (n := 200) rfl), mt6 (mq_mem (n := 174) rfl), mt6 (mq_mem (n := 175) rfl)⟩
theorem lw_p47 : lw_okq (⟨"WinnerTeachesModel", "fault", "(I)V"⟩, 57) := ⟨⟨by decide +kernel, by decide +kernel⟩, mt5 (mq_mem (n := 200) rfl), mt6 (mq_mem (n := 178) rfl), mt6 (mq_mem (n := 179) rfl)⟩
def lw_privs_3 : List (MethodName × Nat) := [(⟨"WinnerTeaches$Season", "followGame", "(LWinnerTeaches$League;LWinnerTeaches$Plan;IZ)V"⟩, 6), (⟨"WinnerTeaches$Search", "expand", "(LWinnerTeaches$League;I)Z"⟩, 7), (⟨"WinnerTeaches$Search", "unpackAll", "(LWinnerTeaches$League;I)V"⟩, 7), (⟨"WinnerTeaches$Search", "step", "(LWinnerTeaches$League;IIII)Z"⟩, 7), (⟨"WinnerTeaches$Search", "halfAfter", "(IIIZ)J"⟩, 7), (⟨"WinnerTeaches", "tellWayTo", "(I)I"⟩, 19), (⟨"WinnerTeaches", "powerAfter", "(IIII)I"⟩, 19), (⟨"WinnerTeaches", "countThrowers", "(I)V"⟩, 19), (⟨"WinnerTeaches", "playAhead", "(I)V"⟩, 19), (⟨"java/lang/Throwable", "fillInStackTrace", "(I)Ljava/lang/Throwable;"⟩, 6), (⟨"WinnerTeachesModel", "begin", "([BII)V"⟩, 57), (⟨"WinnerTeachesModel", "fine", "()Z"⟩, 57), (⟨"WinnerTeachesModel", "passes", "(C)Z"⟩, 57), (⟨"WinnerTeachesModel", "here", "()I"⟩, 57), (⟨"WinnerTeachesModel", "digit", "(II)I"⟩, 57), (⟨"WinnerTeachesModel", "fault", "(I)V"⟩, 57)]
theorem lw_r3 : ∀ q ∈ lw_privs_3, lw_okq q := List.forall_mem_cons.mpr ⟨lw_p32, List.forall_mem_cons.mpr ⟨lw_p33, List.forall_mem_cons.mpr ⟨lw_p34, List.forall_mem_cons.mpr ⟨lw_p35, List.forall_mem_cons.mpr ⟨lw_p36, List.forall_mem_cons.mpr ⟨lw_p37, List.forall_mem_cons.mpr ⟨lw_p38, List.forall_mem_cons.mpr ⟨lw_p39, List.forall_mem_cons.mpr ⟨lw_p40, List.forall_mem_cons.mpr ⟨lw_p41, List.forall_mem_cons.mpr ⟨lw_p42, List.forall_mem_cons.mpr ⟨lw_p43, List.forall_mem_cons.mpr ⟨lw_p44, List.forall_mem_cons.mpr ⟨lw_p45, List.forall_mem_cons.mpr ⟨lw_p46, List.forall_mem_cons.mpr ⟨lw_p47, fun _ h => absurd h List.not_mem_nil⟩⟩⟩⟩⟩⟩⟩⟩⟩⟩⟩⟩⟩⟩⟩⟩
theorem lw_p48 : lw_okq (⟨"WinnerTeachesModel", "side", "(I)I"⟩, 57) := ⟨⟨by decide +kernel, by decide +kernel⟩, mt5 (mq_mem (n := 200) rfl), mt6 (mq_mem (n := 186) rfl), mt6 (mq_mem (n := 187) rfl)⟩
theorem lw_p49 : lw_okq (⟨"WinnerTeachesModel", "isSide", "(I)Z"⟩, 57) := ⟨⟨by decide +kernel, by decide +kernel⟩, mt5 (mq_mem (n := 200) rfl), mt6 (mq_mem (n := 190) rfl), mt6 (mq_mem (n := 191) rfl)⟩
theorem lw_p50 : lw_okq (⟨"WinnerTeachesModel", "need", "(C)V"⟩, 57) := ⟨⟨by decide +kernel, by decide +kernel⟩, mt5 (mq_mem (n := 200) rfl), mt6 (mq_mem (n := 197) rfl), mt6 (mq_mem (n := 198) rfl)⟩
theorem lw_p51 : lw_okq (⟨"WinnerTeachesModel", "held", "(I)I"⟩, 57) := ⟨⟨by decide +kernel, by decide +kernel⟩, mt5 (mq_mem (n := 200) rfl), mt6 (mq_mem (n := 205) rfl), mt6 (mq_mem (n := 206) rfl)⟩
theorem lw_p52 : lw_okq (⟨"WinnerTeachesModel", "sum", "(I)I"⟩, 57) := ⟨⟨by decide +kernel, by decide +kernel⟩, mt5 (mq_mem (n := 200) rfl), mt6 (mq_mem (n := 209) rfl), mt6 (mq_mem (n := 210) rfl)⟩
theorem lw_p53 : lw_okq (⟨"WinnerTeachesModel", "product", "(I)I"⟩, 57) := ⟨⟨by decide +kernel, by decide +kernel⟩, mt5 (mq_mem (n := 200) rfl), mt6 (mq_mem (n := 213) rfl), mt6 (mq_mem (n := 214) rfl)⟩
theorem lw_p54 : lw_okq (⟨"WinnerTeachesModel", "thing", "(I)I"⟩, 57) := ⟨⟨by decide +kernel, by decide +kernel⟩, mt5 (mq_mem (n := 200) rfl), mt6 (mq_mem (n := 217) rfl), mt6 (mq_mem (n := 218) rfl)⟩
theorem lw_p55 : lw_okq (⟨"WinnerTeachesModel", "number", "(I)I"⟩, 57) := ⟨⟨by decide +kernel, by decide +kernel⟩, mt5 (mq_mem (n := 200) rfl), mt6 (mq_mem (n := 223) rfl), mt6 (mq_mem (n := 224) rfl)⟩
theorem lw_p56 : lw_okq (⟨"WinnerTeachesModel", "letter", "(I)I"⟩, 57) := ⟨⟨by decide +kernel, by decide +kernel⟩, mt5 (mq_mem (n := 200) rfl), mt6 (mq_mem (n := 229) rfl), mt6 (mq_mem (n := 230) rfl)⟩
theorem lw_p57 : lw_okq (⟨"WinnerTeachesModel", "sumOf", "(I)I"⟩, 57) := ⟨⟨by decide +kernel, by decide +kernel⟩, mt5 (mq_mem (n := 200) rfl), mt6 (mq_mem (n := 235) rfl), mt6 (mq_mem (n := 236) rfl)⟩
theorem lw_p58 : lw_okq (⟨"WinnerTeachesModel", "isArt", "(I)Z"⟩, 57) := ⟨⟨by decide +kernel, by decide +kernel⟩, mt5 (mq_mem (n := 200) rfl), mt6 (mq_mem (n := 239) rfl), mt7 (mq_mem (n := 0) rfl)⟩
theorem lw_p59 : lw_okq (⟨"WinnerTeachesModel", "lost", "()I"⟩, 57) := ⟨⟨by decide +kernel, by decide +kernel⟩, mt5 (mq_mem (n := 200) rfl), mt7 (mq_mem (n := 12) rfl), mt7 (mq_mem (n := 13) rfl)⟩
theorem lw_p60 : lw_okq (⟨"WinnerTeachesModel", "power", "(I)I"⟩, 57) := ⟨⟨by decide +kernel, by decide +kernel⟩, mt5 (mq_mem (n := 200) rfl), mt7 (mq_mem (n := 16) rfl), mt7 (mq_mem (n := 17) rfl)⟩
theorem lw_p61 : lw_okq (⟨"WinnerTeachesModel", "areTwo", "(II)Z"⟩, 57) := ⟨⟨by decide +kernel, by decide +kernel⟩, mt5 (mq_mem (n := 200) rfl), mt7 (mq_mem (n := 37) rfl), mt7 (mq_mem (n := 38) rfl)⟩
theorem lw_p62 : lw_okq (⟨"WinnerTeachesModel", "winner", "(III)I"⟩, 57) := ⟨⟨by decide +kernel, by decide +kernel⟩, mt5 (mq_mem (n := 200) rfl), mt7 (mq_mem (n := 44) rfl), mt7 (mq_mem (n := 45) rfl)⟩
theorem lw_p63 : lw_okq (⟨"WinnerTeachesModel", "artOf", "(II)I"⟩, 57) := ⟨⟨by decide +kernel, by decide +kernel⟩, mt5 (mq_mem (n := 200) rfl), mt7 (mq_mem (n := 48) rfl), mt7 (mq_mem (n := 49) rfl)⟩
def lw_privs_4 : List (MethodName × Nat) := [(⟨"WinnerTeachesModel", "side", "(I)I"⟩, 57), (⟨"WinnerTeachesModel", "isSide", "(I)Z"⟩, 57), (⟨"WinnerTeachesModel", "need", "(C)V"⟩, 57), (⟨"WinnerTeachesModel", "held", "(I)I"⟩, 57), (⟨"WinnerTeachesModel", "sum", "(I)I"⟩, 57), (⟨"WinnerTeachesModel", "product", "(I)I"⟩, 57), (⟨"WinnerTeachesModel", "thing", "(I)I"⟩, 57), (⟨"WinnerTeachesModel", "number", "(I)I"⟩, 57), (⟨"WinnerTeachesModel", "letter", "(I)I"⟩, 57), (⟨"WinnerTeachesModel", "sumOf", "(I)I"⟩, 57), (⟨"WinnerTeachesModel", "isArt", "(I)Z"⟩, 57), (⟨"WinnerTeachesModel", "lost", "()I"⟩, 57), (⟨"WinnerTeachesModel", "power", "(I)I"⟩, 57), (⟨"WinnerTeachesModel", "areTwo", "(II)Z"⟩, 57), (⟨"WinnerTeachesModel", "winner", "(III)I"⟩, 57), (⟨"WinnerTeachesModel", "artOf", "(II)I"⟩, 57)]
theorem lw_r4 : ∀ q ∈ lw_privs_4, lw_okq q := List.forall_mem_cons.mpr ⟨lw_p48, List.forall_mem_cons.mpr ⟨lw_p49, List.forall_mem_cons.mpr ⟨lw_p50, List.forall_mem_cons.mpr ⟨lw_p51, List.forall_mem_cons.mpr ⟨lw_p52, List.forall_mem_cons.mpr ⟨lw_p53, List.forall_mem_cons.mpr ⟨lw_p54, List.forall_mem_cons.mpr ⟨lw_p55, List.forall_mem_cons.mpr ⟨lw_p56, List.forall_mem_cons.mpr ⟨lw_p57, List.forall_mem_cons.mpr ⟨lw_p58, List.forall_mem_cons.mpr ⟨lw_p59, List.forall_mem_cons.mpr ⟨lw_p60, List.forall_mem_cons.mpr ⟨lw_p61, List.forall_mem_cons.mpr ⟨lw_p62, List.forall_mem_cons.mpr ⟨lw_p63, fun _ h => absurd h List.not_mem_nil⟩⟩⟩⟩⟩⟩⟩⟩⟩⟩⟩⟩⟩⟩⟩⟩
theorem lw_p64 : lw_okq (⟨"WinnerTeachesModel", "gainOf", "(III)I"⟩, 57) := ⟨⟨by decide +kernel, by decide +kernel⟩, mt5 (mq_mem (n := 200) rfl), mt7 (mq_mem (n := 52) rfl), mt7 (mq_mem (n := 53) rfl)⟩
theorem lw_p65 : lw_okq (⟨"WinnerTeachesModel", "tell", "(J)V"⟩, 57) := ⟨⟨by decide +kernel, by decide +kernel⟩, mt5 (mq_mem (n := 200) rfl), mt7 (mq_mem (n := 56) rfl), mt7 (mq_mem (n := 57) rfl)⟩
theorem lw_p66 : lw_okq (⟨"WinnerTeachesModel", "chanceOf", "(II)I"⟩, 57) := ⟨⟨by decide +kernel, by decide +kernel⟩, mt5 (mq_mem (n := 200) rfl), mt7 (mq_mem (n := 64) rfl), mt7 (mq_mem (n := 65) rfl)⟩
theorem lw_p67 : lw_okq (⟨"WinnerTeachesModel", "remember", "()V"⟩, 57) := ⟨⟨by decide +kernel, by decide +kernel⟩, mt5 (mq_mem (n := 200) rfl), mt7 (mq_mem (n := 72) rfl), mt7 (mq_mem (n := 73) rfl)⟩
theorem lw_p68 : lw_okq (⟨"WinnerTeachesModel", "lay", "([II)V"⟩, 57) := ⟨⟨by decide +kernel, by decide +kernel⟩, mt5 (mq_mem (n := 200) rfl), mt7 (mq_mem (n := 76) rfl), mt7 (mq_mem (n := 77) rfl)⟩
theorem lw_p69 : lw_okq (⟨"WinnerTeachesModel", "goGame", "(IIIZ)I"⟩, 57) := ⟨⟨by decide +kernel, by decide +kernel⟩, mt5 (mq_mem (n := 200) rfl), mt7 (mq_mem (n := 80) rfl), mt7 (mq_mem (n := 81) rfl)⟩
theorem lw_p70 : lw_okq (⟨"WinnerTeachesModel", "drawHundred", "()I"⟩, 57) := ⟨⟨by decide +kernel, by decide +kernel⟩, mt5 (mq_mem (n := 200) rfl), mt7 (mq_mem (n := 84) rfl), mt7 (mq_mem (n := 85) rfl)⟩
theorem lw_p71 : lw_okq (⟨"WinnerTeachesModel", "settle", "(IIII)V"⟩, 57) := ⟨⟨by decide +kernel, by decide +kernel⟩, mt5 (mq_mem (n := 200) rfl), mt7 (mq_mem (n := 89) rfl), mt7 (mq_mem (n := 90) rfl)⟩
theorem lw_p72 : lw_okq (⟨"WinnerTeachesModel", "teach", "(II)V"⟩, 57) := ⟨⟨by decide +kernel, by decide +kernel⟩, mt5 (mq_mem (n := 200) rfl), mt7 (mq_mem (n := 93) rfl), mt7 (mq_mem (n := 94) rfl)⟩
theorem lw_p73 : lw_okq (⟨"WinnerTeachesModel", "bring", "([II)V"⟩, 57) := ⟨⟨by decide +kernel, by decide +kernel⟩, mt5 (mq_mem (n := 200) rfl), mt7 (mq_mem (n := 101) rfl), mt7 (mq_mem (n := 102) rfl)⟩
theorem lw_p74 : lw_okq (⟨"WinnerTeachesModel", "sumOfAll", "()I"⟩, 57) := ⟨⟨by decide +kernel, by decide +kernel⟩, mt5 (mq_mem (n := 200) rfl), mt7 (mq_mem (n := 109) rfl), mt7 (mq_mem (n := 110) rfl)⟩
theorem lw_p75 : lw_okq (⟨"WinnerTeachesModel", "goRounds", "(IIZZ)V"⟩, 57) := ⟨⟨by decide +kernel, by decide +kernel⟩, mt5 (mq_mem (n := 200) rfl), mt7 (mq_mem (n := 118) rfl), mt7 (mq_mem (n := 119) rfl)⟩
theorem lw_p76 : lw_okq (⟨"WinnerTeachesModel", "isAhead", "(II)Z"⟩, 57) := ⟨⟨by decide +kernel, by decide +kernel⟩, mt5 (mq_mem (n := 200) rfl), mt7 (mq_mem (n := 126) rfl), mt7 (mq_mem (n := 127) rfl)⟩
theorem lw_p77 : lw_okq (⟨"WinnerTeachesModel", "spreadNow", "()I"⟩, 57) := ⟨⟨by decide +kernel, by decide +kernel⟩, mt5 (mq_mem (n := 200) rfl), mt7 (mq_mem (n := 134) rfl), mt7 (mq_mem (n := 135) rfl)⟩
theorem lw_p78 : lw_okq (⟨"WinnerTeachesModel", "beatenBy", "(I)I"⟩, 57) := ⟨⟨by decide +kernel, by decide +kernel⟩, mt5 (mq_mem (n := 200) rfl), mt7 (mq_mem (n := 150) rfl), mt7 (mq_mem (n := 151) rfl)⟩
theorem lw_p79 : lw_okq (⟨"WinnerTeachesModel", "findRest", "()Z"⟩, 57) := ⟨⟨by decide +kernel, by decide +kernel⟩, mt5 (mq_mem (n := 200) rfl), mt7 (mq_mem (n := 166) rfl), mt7 (mq_mem (n := 167) rfl)⟩
def lw_privs_5 : List (MethodName × Nat) := [(⟨"WinnerTeachesModel", "gainOf", "(III)I"⟩, 57), (⟨"WinnerTeachesModel", "tell", "(J)V"⟩, 57), (⟨"WinnerTeachesModel", "chanceOf", "(II)I"⟩, 57), (⟨"WinnerTeachesModel", "remember", "()V"⟩, 57), (⟨"WinnerTeachesModel", "lay", "([II)V"⟩, 57), (⟨"WinnerTeachesModel", "goGame", "(IIIZ)I"⟩, 57), (⟨"WinnerTeachesModel", "drawHundred", "()I"⟩, 57), (⟨"WinnerTeachesModel", "settle", "(IIII)V"⟩, 57), (⟨"WinnerTeachesModel", "teach", "(II)V"⟩, 57), (⟨"WinnerTeachesModel", "bring", "([II)V"⟩, 57), (⟨"WinnerTeachesModel", "sumOfAll", "()I"⟩, 57), (⟨"WinnerTeachesModel", "goRounds", "(IIZZ)V"⟩, 57), (⟨"WinnerTeachesModel", "isAhead", "(II)Z"⟩, 57), (⟨"WinnerTeachesModel", "spreadNow", "()I"⟩, 57), (⟨"WinnerTeachesModel", "beatenBy", "(I)I"⟩, 57), (⟨"WinnerTeachesModel", "findRest", "()Z"⟩, 57)]
theorem lw_r5 : ∀ q ∈ lw_privs_5, lw_okq q := List.forall_mem_cons.mpr ⟨lw_p64, List.forall_mem_cons.mpr ⟨lw_p65, List.forall_mem_cons.mpr ⟨lw_p66, List.forall_mem_cons.mpr ⟨lw_p67, List.forall_mem_cons.mpr ⟨lw_p68, List.forall_mem_cons.mpr ⟨lw_p69, List.forall_mem_cons.mpr ⟨lw_p70, List.forall_mem_cons.mpr ⟨lw_p71, List.forall_mem_cons.mpr ⟨lw_p72, List.forall_mem_cons.mpr ⟨lw_p73, List.forall_mem_cons.mpr ⟨lw_p74, List.forall_mem_cons.mpr ⟨lw_p75, List.forall_mem_cons.mpr ⟨lw_p76, List.forall_mem_cons.mpr ⟨lw_p77, List.forall_mem_cons.mpr ⟨lw_p78, List.forall_mem_cons.mpr ⟨lw_p79, fun _ h => absurd h List.not_mem_nil⟩⟩⟩⟩⟩⟩⟩⟩⟩⟩⟩⟩⟩⟩⟩⟩
theorem lw_p80 : lw_okq (⟨"WinnerTeachesModel", "clearStates", "()V"⟩, 57) := ⟨⟨by decide +kernel, by decide +kernel⟩, mt5 (mq_mem (n := 200) rfl), mt7 (mq_mem (n := 170) rfl), mt7 (mq_mem (n := 171) rfl)⟩
theorem lw_p81 : lw_okq (⟨"WinnerTeachesModel", "stateNow", "(III)I"⟩, 57) := ⟨⟨by decide +kernel, by decide +kernel⟩, mt5 (mq_mem (n := 200) rfl), mt7 (mq_mem (n := 174) rfl), mt7 (mq_mem (n := 175) rfl)⟩
theorem lw_p82 : lw_okq (⟨"WinnerTeachesModel", "half", "(I)J"⟩, 57) := ⟨⟨by decide +kernel, by decide +kernel⟩, mt5 (mq_mem (n := 200) rfl), mt7 (mq_mem (n := 178) rfl), mt7 (mq_mem (n := 179) rfl)⟩
theorem lw_p83 : lw_okq (⟨"WinnerTeachesModel", "slot", "(JJ)I"⟩, 57) := ⟨⟨by decide +kernel, by decide +kernel⟩, mt5 (mq_mem (n := 200) rfl), mt7 (mq_mem (n := 182) rfl), mt7 (mq_mem (n := 183) rfl)⟩
theorem lw_p84 : lw_okq (⟨"WinnerTeachesModel", "goTurn", "()V"⟩, 57) := ⟨⟨by decide +kernel, by decide +kernel⟩, mt5 (mq_mem (n := 200) rfl), mt7 (mq_mem (n := 188) rfl), mt7 (mq_mem (n := 189) rfl)⟩
theorem lw_p85 : lw_okq (⟨"WinnerTeachesModel", "goQuiet", "(III)V"⟩, 57) := ⟨⟨by decide +kernel, by decide +kernel⟩, mt5 (mq_mem (n := 200) rfl), mt7 (mq_mem (n := 192) rfl), mt7 (mq_mem (n := 193) rfl)⟩
theorem lw_p86 : lw_okq (⟨"WinnerTeachesModel", "load", "(I)V"⟩, 57) := ⟨⟨by decide +kernel, by decide +kernel⟩, mt5 (mq_mem (n := 200) rfl), mt7 (mq_mem (n := 196) rfl), mt7 (mq_mem (n := 197) rfl)⟩
theorem lw_p87 : lw_okq (⟨"WinnerTeachesModel", "skillIn", "(III)I"⟩, 57) := ⟨⟨by decide +kernel, by decide +kernel⟩, mt5 (mq_mem (n := 200) rfl), mt7 (mq_mem (n := 205) rfl), mt7 (mq_mem (n := 206) rfl)⟩
theorem lw_p88 : lw_okq (⟨"WinnerTeachesModel", "tellPart", "(JJ)V"⟩, 57) := ⟨⟨by decide +kernel, by decide +kernel⟩, mt5 (mq_mem (n := 200) rfl), mt7 (mq_mem (n := 209) rfl), mt7 (mq_mem (n := 210) rfl)⟩
theorem lw_p89 : lw_okq (⟨"WinnerTeachesModel", "chanceOfWins", "(IIII)J"⟩, 57) := ⟨⟨by decide +kernel, by decide +kernel⟩, mt5 (mq_mem (n := 200) rfl), mt7 (mq_mem (n := 225) rfl), mt7 (mq_mem (n := 226) rfl)⟩
theorem lw_p90 : lw_okq (⟨"WinnerTeachesModel", "chanceBehind", "(IIIII)J"⟩, 57) := ⟨⟨by decide +kernel, by decide +kernel⟩, mt5 (mq_mem (n := 200) rfl), mt7 (mq_mem (n := 229) rfl), mt7 (mq_mem (n := 230) rfl)⟩
theorem lw_p91 : lw_okq (⟨"WinnerTeachesModel", "hopeOf", "(II)J"⟩, 57) := ⟨⟨by decide +kernel, by decide +kernel⟩, mt5 (mq_mem (n := 200) rfl), mt8 (mq_mem (n := 0) rfl), mt8 (mq_mem (n := 1) rfl)⟩
theorem lw_p92 : lw_okq (⟨"WinnerTeachesModel", "hopeBehind", "(III)J"⟩, 57) := ⟨⟨by decide +kernel, by decide +kernel⟩, mt5 (mq_mem (n := 200) rfl), mt8 (mq_mem (n := 4) rfl), mt8 (mq_mem (n := 5) rfl)⟩
theorem lw_p93 : lw_okq (⟨"WinnerTeachesModel", "findStates", "(I)Z"⟩, 57) := ⟨⟨by decide +kernel, by decide +kernel⟩, mt5 (mq_mem (n := 200) rfl), mt8 (mq_mem (n := 12) rfl), mt8 (mq_mem (n := 13) rfl)⟩
theorem lw_p94 : lw_okq (⟨"WinnerTeachesModel", "tellWay", "(I)I"⟩, 57) := ⟨⟨by decide +kernel, by decide +kernel⟩, mt5 (mq_mem (n := 200) rfl), mt8 (mq_mem (n := 16) rfl), mt8 (mq_mem (n := 17) rfl)⟩
theorem lw_p95 : lw_okq (⟨"WinnerTeachesModel", "pointsBehind", "(II)I"⟩, 57) := ⟨⟨by decide +kernel, by decide +kernel⟩, mt5 (mq_mem (n := 200) rfl), mt8 (mq_mem (n := 60) rfl), mt8 (mq_mem (n := 61) rfl)⟩
def lw_privs_6 : List (MethodName × Nat) := [(⟨"WinnerTeachesModel", "clearStates", "()V"⟩, 57), (⟨"WinnerTeachesModel", "stateNow", "(III)I"⟩, 57), (⟨"WinnerTeachesModel", "half", "(I)J"⟩, 57), (⟨"WinnerTeachesModel", "slot", "(JJ)I"⟩, 57), (⟨"WinnerTeachesModel", "goTurn", "()V"⟩, 57), (⟨"WinnerTeachesModel", "goQuiet", "(III)V"⟩, 57), (⟨"WinnerTeachesModel", "load", "(I)V"⟩, 57), (⟨"WinnerTeachesModel", "skillIn", "(III)I"⟩, 57), (⟨"WinnerTeachesModel", "tellPart", "(JJ)V"⟩, 57), (⟨"WinnerTeachesModel", "chanceOfWins", "(IIII)J"⟩, 57), (⟨"WinnerTeachesModel", "chanceBehind", "(IIIII)J"⟩, 57), (⟨"WinnerTeachesModel", "hopeOf", "(II)J"⟩, 57), (⟨"WinnerTeachesModel", "hopeBehind", "(III)J"⟩, 57), (⟨"WinnerTeachesModel", "findStates", "(I)Z"⟩, 57), (⟨"WinnerTeachesModel", "tellWay", "(I)I"⟩, 57), (⟨"WinnerTeachesModel", "pointsBehind", "(II)I"⟩, 57)]
theorem lw_r6 : ∀ q ∈ lw_privs_6, lw_okq q := List.forall_mem_cons.mpr ⟨lw_p80, List.forall_mem_cons.mpr ⟨lw_p81, List.forall_mem_cons.mpr ⟨lw_p82, List.forall_mem_cons.mpr ⟨lw_p83, List.forall_mem_cons.mpr ⟨lw_p84, List.forall_mem_cons.mpr ⟨lw_p85, List.forall_mem_cons.mpr ⟨lw_p86, List.forall_mem_cons.mpr ⟨lw_p87, List.forall_mem_cons.mpr ⟨lw_p88, List.forall_mem_cons.mpr ⟨lw_p89, List.forall_mem_cons.mpr ⟨lw_p90, List.forall_mem_cons.mpr ⟨lw_p91, List.forall_mem_cons.mpr ⟨lw_p92, List.forall_mem_cons.mpr ⟨lw_p93, List.forall_mem_cons.mpr ⟨lw_p94, List.forall_mem_cons.mpr ⟨lw_p95, fun _ h => absurd h List.not_mem_nil⟩⟩⟩⟩⟩⟩⟩⟩⟩⟩⟩⟩⟩⟩⟩⟩
def lw_privs : List (MethodName × Nat) := lw_privs_1 ++ (lw_privs_2 ++ (lw_privs_3 ++ (lw_privs_4 ++ (lw_privs_5 ++ (lw_privs_6)))))
def lw_tbl : List Cond := k2_sels lw_privs ++ tables_1
theorem lw_privs_ok : ∀ q ∈ lw_privs, lw_okq q := by
  show ∀ q ∈ lw_privs_1 ++ (lw_privs_2 ++ (lw_privs_3 ++ (lw_privs_4 ++ (lw_privs_5 ++ (lw_privs_6))))), lw_okq q
  exact List.forall_mem_append.mpr ⟨lw_r1, List.forall_mem_append.mpr ⟨lw_r2, List.forall_mem_append.mpr ⟨lw_r3, List.forall_mem_append.mpr ⟨lw_r4, List.forall_mem_append.mpr ⟨lw_r5, lw_r6⟩⟩⟩⟩⟩
def RX0 : String := "WinnerTeaches$Kept"
def TX0 : u_T := fun k => match k with
  | 0 => ("WinnerTeaches$Kept", "standing", "LWinnerTeaches$Standing;", true)
  | 1 => ("WinnerTeaches$Kept", "law", "[I", true)
  | 2 => ("WinnerTeaches$Kept", "ill", "I", false)
  | 3 => ("WinnerTeaches$Kept", "round", "I", false)
  | _ => ("WinnerTeaches$Kept", "there", "Z", false)
def tyX0 : Nat → FieldType := fun k => match k with
  | 0 => .object "WinnerTeaches$Standing"
  | 1 => .array .int
  | 2 => .int
  | 3 => .int
  | _ => .boolean
abbrev wsX00 : List Cond := u_ws RX0 TX0 5
theorem nmX0 : ∀ a, a < 5 → ∀ b, b < 5 → a ≠ b → (TX0 a).2.1 ≠ (TX0 b).2.1 := by decide +kernel
theorem tyX0_ok : ∀ k, k < 5 → parseFieldDescriptor (TX0 k).2.2.1 = some (tyX0 k) := by decide +kernel
abbrev cX0_init : ByteArray := prog_2_method_1_code
def yX0_init : MethodName := ⟨RX0, "<init>", "()V"⟩
abbrev cX0_store : ByteArray := prog_2_method_2_code
def yX0_store : MethodName := ⟨RX0, "store", "(LWinnerTeaches$League;LWinnerTeaches$Standing;I)V"⟩
abbrev cX0_restore : ByteArray := prog_2_method_3_code
def yX0_restore : MethodName := ⟨RX0, "restore", "(LWinnerTeaches$League;LWinnerTeaches$Standing;)V"⟩
def RX1 : String := "WinnerTeaches$League"
def TX1 : u_T := fun k => match k with
  | 0 => ("WinnerTeaches$League", "law", "[I", true)
  | 1 => ("WinnerTeaches$League", "rule", "LWinnerTeaches$Rule;", false)
  | 2 => ("WinnerTeaches$League", "spareRule", "LWinnerTeaches$Rule;", false)
  | 3 => ("WinnerTeaches$League", "sides", "I", false)
  | 4 => ("WinnerTeaches$League", "arts", "I", false)
  | 5 => ("WinnerTeaches$League", "ill", "I", false)
  | 6 => ("WinnerTeaches$League", "taughtArt", "I", false)
  | _ => ("WinnerTeaches$League", "taughtMore", "I", false)
def tyX1 : Nat → FieldType := fun k => match k with
  | 0 => .array .int
  | 1 => .object "WinnerTeaches$Rule"
  | 2 => .object "WinnerTeaches$Rule"
  | 3 => .int
  | 4 => .int
  | 5 => .int
  | 6 => .int
  | _ => .int
abbrev wsX10 : List Cond := u_ws RX1 TX1 8
theorem nmX1 : ∀ a, a < 8 → ∀ b, b < 8 → a ≠ b → (TX1 a).2.1 ≠ (TX1 b).2.1 := by decide +kernel
theorem tyX1_ok : ∀ k, k < 8 → parseFieldDescriptor (TX1 k).2.2.1 = some (tyX1 k) := by decide +kernel
abbrev cX1_init : ByteArray := prog_3_method_1_code
def yX1_init : MethodName := ⟨RX1, "<init>", "()V"⟩
abbrev cX1_allows : ByteArray := prog_3_method_2_code
def yX1_allows : MethodName := ⟨RX1, "allows", "(II)Z"⟩
abbrev cX1_has : ByteArray := prog_3_method_3_code
def yX1_has : MethodName := ⟨RX1, "has", "(I)Z"⟩
abbrev cX1_knows : ByteArray := prog_3_method_4_code
def yX1_knows : MethodName := ⟨RX1, "knows", "(I)Z"⟩
abbrev cX1_isIll : ByteArray := prog_3_method_5_code
def yX1_isIll : MethodName := ⟨RX1, "isIll", "(I)Z"⟩
abbrev cX1_canMeet : ByteArray := prog_3_method_6_code
def yX1_canMeet : MethodName := ⟨RX1, "canMeet", "(II)Z"⟩
abbrev cX1_power : ByteArray := prog_3_method_7_code
def yX1_power : MethodName := ⟨RX1, "power", "(LWinnerTeaches$Standing;I)I"⟩
abbrev cX1_strongest : ByteArray := prog_3_method_8_code
def yX1_strongest : MethodName := ⟨RX1, "strongest", "(LWinnerTeaches$Standing;)I"⟩
abbrev cX1_weakest : ByteArray := prog_3_method_9_code
def yX1_weakest : MethodName := ⟨RX1, "weakest", "(LWinnerTeaches$Standing;)I"⟩
abbrev cX1_total : ByteArray := prog_3_method_10_code
def yX1_total : MethodName := ⟨RX1, "total", "(LWinnerTeaches$Standing;)I"⟩
abbrev cX1_result : ByteArray := prog_3_method_11_code
def yX1_result : MethodName := ⟨RX1, "result", "(LWinnerTeaches$Standing;III)I"⟩
abbrev cX1_resultOf : ByteArray := prog_3_method_12_code
def yX1_resultOf : MethodName := ⟨RX1, "resultOf", "(I)I"⟩
abbrev cX1_chance : ByteArray := prog_3_method_13_code
def yX1_chance : MethodName := ⟨RX1, "chance", "(LWinnerTeaches$Standing;II)I"⟩
abbrev cX1_drawnResult : ByteArray := prog_3_method_14_code
def yX1_drawnResult : MethodName := ⟨RX1, "drawnResult", "(LWinnerTeaches$Standing;II)I"⟩
abbrev cX1_settle : ByteArray := prog_3_method_15_code
def yX1_settle : MethodName := ⟨RX1, "settle", "(LWinnerTeaches$Standing;IIIZ)V"⟩
abbrev cX1_givePoints : ByteArray := prog_3_method_16_code
def yX1_givePoints : MethodName := ⟨RX1, "givePoints", "(LWinnerTeaches$Standing;III)V"⟩
abbrev cX1_teach : ByteArray := prog_3_method_17_code
def yX1_teach : MethodName := ⟨RX1, "teach", "(LWinnerTeaches$Standing;IIZ)V"⟩
def RX2 : String := "WinnerTeaches$Past"
def TX2 : u_T := fun k => match k with
  | 0 => ("WinnerTeaches$Past", "ring", "[LWinnerTeaches$Standing;", true)
  | 1 => ("WinnerTeaches$Past", "length", "I", false)
  | _ => ("WinnerTeaches$Past", "latest", "I", false)
def tyX2 : Nat → FieldType := fun k => match k with
  | 0 => .array (.object "WinnerTeaches$Standing")
  | 1 => .int
  | _ => .int
abbrev wsX20 : List Cond := u_ws RX2 TX2 3
theorem nmX2 : ∀ a, a < 3 → ∀ b, b < 3 → a ≠ b → (TX2 a).2.1 ≠ (TX2 b).2.1 := by decide +kernel
theorem tyX2_ok : ∀ k, k < 3 → parseFieldDescriptor (TX2 k).2.2.1 = some (tyX2 k) := by decide +kernel
abbrev cX2_init : ByteArray := prog_4_method_1_code
def yX2_init : MethodName := ⟨RX2, "<init>", "()V"⟩
abbrev cX2_save : ByteArray := prog_4_method_2_code
def yX2_save : MethodName := ⟨RX2, "save", "(LWinnerTeaches$Standing;)V"⟩
abbrev cX2_takeBack : ByteArray := prog_4_method_3_code
def yX2_takeBack : MethodName := ⟨RX2, "takeBack", "(LWinnerTeaches$Standing;)Z"⟩
def RX3 : String := "WinnerTeaches$Plan"
def TX3 : u_T := fun k => match k with
  | 0 => ("WinnerTeaches$Plan", "first", "[I", true)
  | 1 => ("WinnerTeaches$Plan", "second", "[I", true)
  | 2 => ("WinnerTeaches$Plan", "thrown", "[I", true)
  | 3 => ("WinnerTeaches$Plan", "starts", "[I", true)
  | 4 => ("WinnerTeaches$Plan", "places", "[I", true)
  | 5 => ("WinnerTeaches$Plan", "rounds", "I", false)
  | 6 => ("WinnerTeaches$Plan", "games", "I", false)
  | 7 => ("WinnerTeaches$Plan", "state", "I", false)
  | _ => ("WinnerTeaches$Plan", "used", "I", false)
def tyX3 : Nat → FieldType := fun k => match k with
  | 0 => .array .int
  | 1 => .array .int
  | 2 => .array .int
  | 3 => .array .int
  | 4 => .array .int
  | 5 => .int
  | 6 => .int
  | 7 => .int
  | _ => .int
abbrev wsX30 : List Cond := u_ws RX3 TX3 9
theorem nmX3 : ∀ a, a < 9 → ∀ b, b < 9 → a ≠ b → (TX3 a).2.1 ≠ (TX3 b).2.1 := by decide +kernel
theorem tyX3_ok : ∀ k, k < 9 → parseFieldDescriptor (TX3 k).2.2.1 = some (tyX3 k) := by decide +kernel
abbrev cX3_init : ByteArray := prog_5_method_1_code
def yX3_init : MethodName := ⟨RX3, "<init>", "()V"⟩
abbrev cX3_clear : ByteArray := prog_5_method_2_code
def yX3_clear : MethodName := ⟨RX3, "clear", "()V"⟩
abbrev cX3_begin : ByteArray := prog_5_method_3_code
def yX3_begin : MethodName := ⟨RX3, "begin", "(I)I"⟩
abbrev cX3_after : ByteArray := prog_5_method_4_code
def yX3_after : MethodName := ⟨RX3, "after", "(I)I"⟩
abbrev cX3_compile : ByteArray := prog_5_method_5_code
def yX3_compile : MethodName := ⟨RX3, "compile", "(LWinnerTeaches$Text;I)I"⟩
abbrev cX3_openRound : ByteArray := prog_5_method_6_code
def yX3_openRound : MethodName := ⟨RX3, "openRound", "()V"⟩
abbrev cX3_take : ByteArray := prog_5_method_7_code
def yX3_take : MethodName := ⟨RX3, "take", "(CI)Z"⟩
abbrev cX3_takeSide : ByteArray := prog_5_method_8_code
def yX3_takeSide : MethodName := ⟨RX3, "takeSide", "(II)Z"⟩
abbrev cX3_takeThrow : ByteArray := prog_5_method_9_code
def yX3_takeThrow : MethodName := ⟨RX3, "takeThrow", "(CII)Z"⟩
abbrev cX3_takeDash : ByteArray := prog_5_method_10_code
def yX3_takeDash : MethodName := ⟨RX3, "takeDash", "(C)Z"⟩
abbrev cX3_takeBreak : ByteArray := prog_5_method_11_code
def yX3_takeBreak : MethodName := ⟨RX3, "takeBreak", "(C)Z"⟩
abbrev cX3_addGame : ByteArray := prog_5_method_12_code
def yX3_addGame : MethodName := ⟨RX3, "addGame", "(III)V"⟩
abbrev cX3_fillEachWithEach : ByteArray := prog_5_method_13_code
def yX3_fillEachWithEach : MethodName := ⟨RX3, "fillEachWithEach", "(I)V"⟩
abbrev cX3_turnPlaces : ByteArray := prog_5_method_14_code
def yX3_turnPlaces : MethodName := ⟨RX3, "turnPlaces", "(I)V"⟩
def RX4 : String := "WinnerTeaches$Roster"
def TX4 : u_T := fun k => match k with
  | 0 => ("WinnerTeaches$Roster", "draft", "LWinnerTeaches$Standing;", true)
  | 1 => ("WinnerTeaches$Roster", "sides", "I", false)
  | 2 => ("WinnerTeaches$Roster", "arts", "I", false)
  | 3 => ("WinnerTeaches$Roster", "ill", "I", false)
  | 4 => ("WinnerTeaches$Roster", "lines", "I", false)
  | 5 => ("WinnerTeaches$Roster", "digits", "I", false)
  | 6 => ("WinnerTeaches$Roster", "state", "I", false)
  | _ => ("WinnerTeaches$Roster", "wiped", "Z", false)
def tyX4 : Nat → FieldType := fun k => match k with
  | 0 => .object "WinnerTeaches$Standing"
  | 1 => .int
  | 2 => .int
  | 3 => .int
  | 4 => .int
  | 5 => .int
  | 6 => .int
  | _ => .boolean
abbrev wsX40 : List Cond := u_ws RX4 TX4 8
theorem nmX4 : ∀ a, a < 8 → ∀ b, b < 8 → a ≠ b → (TX4 a).2.1 ≠ (TX4 b).2.1 := by decide +kernel
theorem tyX4_ok : ∀ k, k < 8 → parseFieldDescriptor (TX4 k).2.2.1 = some (tyX4 k) := by decide +kernel
abbrev cX4_init : ByteArray := prog_6_method_1_code
def yX4_init : MethodName := ⟨RX4, "<init>", "()V"⟩
abbrev cX4_read : ByteArray := prog_6_method_2_code
def yX4_read : MethodName := ⟨RX4, "read", "(LWinnerTeaches$Text;LWinnerTeaches$League;LWinnerTeaches$Standing;)I"⟩
abbrev cX4_enter : ByteArray := prog_6_method_3_code
def yX4_enter : MethodName := ⟨RX4, "enter", "(LWinnerTeaches$League;LWinnerTeaches$Standing;)V"⟩
abbrev cX4_canEnd : ByteArray := prog_6_method_4_code
def yX4_canEnd : MethodName := ⟨RX4, "canEnd", "()Z"⟩
abbrev cX4_take : ByteArray := prog_6_method_5_code
def yX4_take : MethodName := ⟨RX4, "take", "(C)Z"⟩
abbrev cX4_takeLine : ByteArray := prog_6_method_6_code
def yX4_takeLine : MethodName := ⟨RX4, "takeLine", "(C)Z"⟩
abbrev cX4_takeArts : ByteArray := prog_6_method_7_code
def yX4_takeArts : MethodName := ⟨RX4, "takeArts", "(I)Z"⟩
abbrev cX4_takeSkill : ByteArray := prog_6_method_8_code
def yX4_takeSkill : MethodName := ⟨RX4, "takeSkill", "(I)Z"⟩
abbrev cX4_takeIll : ByteArray := prog_6_method_9_code
def yX4_takeIll : MethodName := ⟨RX4, "takeIll", "(C)Z"⟩
def RX5 : String := "WinnerTeaches$Rule"
def TX5 : u_T := fun k => match k with
  | 0 => ("WinnerTeaches$Rule", "code", "[I", true)
  | 1 => ("WinnerTeaches$Rule", "values", "[I", true)
  | 2 => ("WinnerTeaches$Rule", "waiting", "[I", true)
  | 3 => ("WinnerTeaches$Rule", "compared", "[Z", true)
  | 4 => ("WinnerTeaches$Rule", "length", "I", false)
  | 5 => ("WinnerTeaches$Rule", "waitingCount", "I", false)
  | 6 => ("WinnerTeaches$Rule", "depth", "I", false)
  | 7 => ("WinnerTeaches$Rule", "digits", "I", false)
  | _ => ("WinnerTeaches$Rule", "wantsThing", "Z", false)
def tyX5 : Nat → FieldType := fun k => match k with
  | 0 => .array .int
  | 1 => .array .int
  | 2 => .array .int
  | 3 => .array .boolean
  | 4 => .int
  | 5 => .int
  | 6 => .int
  | 7 => .int
  | _ => .boolean
abbrev wsX50 : List Cond := u_ws RX5 TX5 9
theorem nmX5 : ∀ a, a < 9 → ∀ b, b < 9 → a ≠ b → (TX5 a).2.1 ≠ (TX5 b).2.1 := by decide +kernel
theorem tyX5_ok : ∀ k, k < 9 → parseFieldDescriptor (TX5 k).2.2.1 = some (tyX5 k) := by decide +kernel
abbrev cX5_init : ByteArray := prog_7_method_1_code
def yX5_init : MethodName := ⟨RX5, "<init>", "()V"⟩
abbrev cX5_compile : ByteArray := prog_7_method_2_code
def yX5_compile : MethodName := ⟨RX5, "compile", "(LWinnerTeaches$Text;)I"⟩
abbrev cX5_take : ByteArray := prog_7_method_3_code
def yX5_take : MethodName := ⟨RX5, "take", "(C)Z"⟩
abbrev cX5_takeDigit : ByteArray := prog_7_method_4_code
def yX5_takeDigit : MethodName := ⟨RX5, "takeDigit", "(I)Z"⟩
abbrev cX5_takeThing : ByteArray := prog_7_method_5_code
def yX5_takeThing : MethodName := ⟨RX5, "takeThing", "(C)Z"⟩
abbrev cX5_takeJoin : ByteArray := prog_7_method_6_code
def yX5_takeJoin : MethodName := ⟨RX5, "takeJoin", "(C)Z"⟩
abbrev cX5_isThing : ByteArray := prog_7_method_7_code
def yX5_isThing : MethodName := ⟨RX5, "isThing", "(C)Z"⟩
abbrev cX5_rank : ByteArray := prog_7_method_8_code
def yX5_rank : MethodName := ⟨RX5, "rank", "(I)I"⟩
abbrev cX5_emit : ByteArray := prog_7_method_9_code
def yX5_emit : MethodName := ⟨RX5, "emit", "(I)V"⟩
abbrev cX5_hold : ByteArray := prog_7_method_10_code
def yX5_hold : MethodName := ⟨RX5, "hold", "(I)V"⟩
abbrev cX5_release : ByteArray := prog_7_method_11_code
def yX5_release : MethodName := ⟨RX5, "release", "(I)V"⟩
abbrev cX5_value : ByteArray := prog_7_method_12_code
def yX5_value : MethodName := ⟨RX5, "value", "(LWinnerTeaches$Standing;II)I"⟩
abbrev cX5_thing : ByteArray := prog_7_method_13_code
def yX5_thing : MethodName := ⟨RX5, "thing", "(ILWinnerTeaches$Standing;II)I"⟩
abbrev cX5_joined : ByteArray := prog_7_method_14_code
def yX5_joined : MethodName := ⟨RX5, "joined", "(III)I"⟩
def RX6 : String := "WinnerTeaches$Search"
def TX6 : u_T := fun k => match k with
  | 0 => ("WinnerTeaches$Search", "states", "LWinnerTeaches$States;", true)
  | 1 => ("WinnerTeaches$Search", "work", "LWinnerTeaches$Standing;", true)
  | 2 => ("WinnerTeaches$Search", "powers", "[I", true)
  | 3 => ("WinnerTeaches$Search", "parent", "[I", true)
  | 4 => ("WinnerTeaches$Search", "move", "[I", true)
  | 5 => ("WinnerTeaches$Search", "depth", "[I", true)
  | _ => ("WinnerTeaches$Search", "found", "I", false)
def tyX6 : Nat → FieldType := fun k => match k with
  | 0 => .object "WinnerTeaches$States"
  | 1 => .object "WinnerTeaches$Standing"
  | 2 => .array .int
  | 3 => .array .int
  | 4 => .array .int
  | 5 => .array .int
  | _ => .int
abbrev wsX60 : List Cond := u_ws RX6 TX6 7
theorem nmX6 : ∀ a, a < 7 → ∀ b, b < 7 → a ≠ b → (TX6 a).2.1 ≠ (TX6 b).2.1 := by decide +kernel
theorem tyX6_ok : ∀ k, k < 7 → parseFieldDescriptor (TX6 k).2.2.1 = some (tyX6 k) := by decide +kernel
abbrev cX6_init : ByteArray := prog_8_method_1_code
def yX6_init : MethodName := ⟨RX6, "<init>", "(LWinnerTeaches$States;)V"⟩
abbrev cX6_explore : ByteArray := prog_8_method_2_code
def yX6_explore : MethodName := ⟨RX6, "explore", "(LWinnerTeaches$League;LWinnerTeaches$Standing;I)Z"⟩
abbrev cX6_expand : ByteArray := prog_8_method_3_code
def yX6_expand : MethodName := ⟨RX6, "expand", "(LWinnerTeaches$League;I)Z"⟩
abbrev cX6_step : ByteArray := prog_8_method_4_code
def yX6_step : MethodName := ⟨RX6, "step", "(LWinnerTeaches$League;IIII)Z"⟩
abbrev cX6_halfAfter : ByteArray := prog_8_method_5_code
def yX6_halfAfter : MethodName := ⟨RX6, "halfAfter", "(IIIZ)J"⟩
abbrev cX6_unpackAll : ByteArray := prog_8_method_6_code
def yX6_unpackAll : MethodName := ⟨RX6, "unpackAll", "(LWinnerTeaches$League;I)V"⟩
abbrev cX6_fillWay : ByteArray := prog_8_method_7_code
def yX6_fillWay : MethodName := ⟨RX6, "fillWay", "(I[J)V"⟩
abbrev cX6_firstStrong : ByteArray := prog_8_method_8_code
def yX6_firstStrong : MethodName := ⟨RX6, "firstStrong", "(LWinnerTeaches$League;I)I"⟩
abbrev cX6_greatestPower : ByteArray := prog_8_method_9_code
def yX6_greatestPower : MethodName := ⟨RX6, "greatestPower", "(LWinnerTeaches$League;I)I"⟩
abbrev cX6_leastGap : ByteArray := prog_8_method_10_code
def yX6_leastGap : MethodName := ⟨RX6, "leastGap", "(LWinnerTeaches$League;)I"⟩
def RX7 : String := "WinnerTeaches$Season"
def TX7 : u_T := fun k => match k with
  | 0 => ("WinnerTeaches$Season", "states", "LWinnerTeaches$States;", true)
  | 1 => ("WinnerTeaches$Season", "work", "LWinnerTeaches$Standing;", true)
  | 2 => ("WinnerTeaches$Season", "won", "[I", true)
  | 3 => ("WinnerTeaches$Season", "tail", "I", false)
  | 4 => ("WinnerTeaches$Season", "loop", "I", false)
  | _ => ("WinnerTeaches$Season", "weight", "J", false)
def tyX7 : Nat → FieldType := fun k => match k with
  | 0 => .object "WinnerTeaches$States"
  | 1 => .object "WinnerTeaches$Standing"
  | 2 => .array .int
  | 3 => .int
  | 4 => .int
  | _ => .long
abbrev wsX70 : List Cond := u_ws RX7 TX7 6
theorem nmX7 : ∀ a, a < 6 → ∀ b, b < 6 → a ≠ b → (TX7 a).2.1 ≠ (TX7 b).2.1 := by decide +kernel
theorem tyX7_ok : ∀ k, k < 6 → parseFieldDescriptor (TX7 k).2.2.1 = some (tyX7 k) := by decide +kernel
abbrev cX7_init : ByteArray := prog_9_method_1_code
def yX7_init : MethodName := ⟨RX7, "<init>", "(LWinnerTeaches$States;)V"⟩
abbrev cX7_findLoop : ByteArray := prog_9_method_2_code
def yX7_findLoop : MethodName := ⟨RX7, "findLoop", "(LWinnerTeaches$League;LWinnerTeaches$Plan;LWinnerTeaches$Standing;)Z"⟩
abbrev cX7_playTurn : ByteArray := prog_9_method_3_code
def yX7_playTurn : MethodName := ⟨RX7, "playTurn", "(LWinnerTeaches$League;LWinnerTeaches$Plan;)V"⟩
abbrev cX7_loopSum : ByteArray := prog_9_method_4_code
def yX7_loopSum : MethodName := ⟨RX7, "loopSum", "(II)I"⟩
abbrev cX7_follow : ByteArray := prog_9_method_5_code
def yX7_follow : MethodName := ⟨RX7, "follow", "(LWinnerTeaches$League;LWinnerTeaches$Plan;LWinnerTeaches$Standing;II)J"⟩
abbrev cX7_followGame : ByteArray := prog_9_method_6_code
def yX7_followGame : MethodName := ⟨RX7, "followGame", "(LWinnerTeaches$League;LWinnerTeaches$Plan;IZ)V"⟩
def RX8 : String := "WinnerTeaches$Standing"
def TX8 : u_T := fun k => match k with
  | 0 => ("WinnerTeaches$Standing", "skills", "[I", true)
  | 1 => ("WinnerTeaches$Standing", "points", "[I", true)
  | 2 => ("WinnerTeaches$Standing", "raised", "[I", true)
  | 3 => ("WinnerTeaches$Standing", "thrown", "[I", true)
  | _ => ("WinnerTeaches$Standing", "luck", "I", false)
def tyX8 : Nat → FieldType := fun k => match k with
  | 0 => .array .int
  | 1 => .array .int
  | 2 => .array .int
  | 3 => .array .int
  | _ => .int
abbrev wsX80 : List Cond := u_ws RX8 TX8 5
theorem nmX8 : ∀ a, a < 5 → ∀ b, b < 5 → a ≠ b → (TX8 a).2.1 ≠ (TX8 b).2.1 := by decide +kernel
theorem tyX8_ok : ∀ k, k < 5 → parseFieldDescriptor (TX8 k).2.2.1 = some (tyX8 k) := by decide +kernel
abbrev cX8_init : ByteArray := prog_10_method_1_code
def yX8_init : MethodName := ⟨RX8, "<init>", "()V"⟩
abbrev cX8_skillOf : ByteArray := prog_10_method_2_code
def yX8_skillOf : MethodName := ⟨RX8, "skillOf", "(II)I"⟩
abbrev cX8_putSkill : ByteArray := prog_10_method_3_code
def yX8_putSkill : MethodName := ⟨RX8, "putSkill", "(III)V"⟩
abbrev cX8_sum : ByteArray := prog_10_method_4_code
def yX8_sum : MethodName := ⟨RX8, "sum", "(II)I"⟩
abbrev cX8_greatest : ByteArray := prog_10_method_5_code
def yX8_greatest : MethodName := ⟨RX8, "greatest", "(II)I"⟩
abbrev cX8_least : ByteArray := prog_10_method_6_code
def yX8_least : MethodName := ⟨RX8, "least", "(II)I"⟩
abbrev cX8_furthestArt : ByteArray := prog_10_method_7_code
def yX8_furthestArt : MethodName := ⟨RX8, "furthestArt", "(III)I"⟩
abbrev cX8_copy : ByteArray := prog_10_method_8_code
def yX8_copy : MethodName := ⟨RX8, "copy", "(LWinnerTeaches$Standing;)V"⟩
abbrev cX8_copySkills : ByteArray := prog_10_method_9_code
def yX8_copySkills : MethodName := ⟨RX8, "copySkills", "(LWinnerTeaches$Standing;I)V"⟩
abbrev cX8_clearSide : ByteArray := prog_10_method_10_code
def yX8_clearSide : MethodName := ⟨RX8, "clearSide", "(I)V"⟩
def RX9 : String := "WinnerTeaches$States"
def TX9 : u_T := fun k => match k with
  | 0 => ("WinnerTeaches$States", "low", "[J", true)
  | 1 => ("WinnerTeaches$States", "high", "[J", true)
  | 2 => ("WinnerTeaches$States", "slots", "[I", true)
  | 3 => ("WinnerTeaches$States", "slotOf", "[I", true)
  | 4 => ("WinnerTeaches$States", "length", "I", false)
  | _ => ("WinnerTeaches$States", "cameNew", "Z", false)
def tyX9 : Nat → FieldType := fun k => match k with
  | 0 => .array .long
  | 1 => .array .long
  | 2 => .array .int
  | 3 => .array .int
  | 4 => .int
  | _ => .boolean
abbrev wsX90 : List Cond := u_ws RX9 TX9 6
theorem nmX9 : ∀ a, a < 6 → ∀ b, b < 6 → a ≠ b → (TX9 a).2.1 ≠ (TX9 b).2.1 := by decide +kernel
theorem tyX9_ok : ∀ k, k < 6 → parseFieldDescriptor (TX9 k).2.2.1 = some (tyX9 k) := by decide +kernel
abbrev cX9_init : ByteArray := prog_11_method_1_code
def yX9_init : MethodName := ⟨RX9, "<init>", "()V"⟩
abbrev cX9_clear : ByteArray := prog_11_method_2_code
def yX9_clear : MethodName := ⟨RX9, "clear", "()V"⟩
abbrev cX9_put : ByteArray := prog_11_method_3_code
def yX9_put : MethodName := ⟨RX9, "put", "(JJ)I"⟩
abbrev cX9_putSkillsOf : ByteArray := prog_11_method_4_code
def yX9_putSkillsOf : MethodName := ⟨RX9, "putSkillsOf", "(LWinnerTeaches$Standing;)I"⟩
abbrev cX9_packed : ByteArray := prog_11_method_5_code
def yX9_packed : MethodName := ⟨RX9, "packed", "(LWinnerTeaches$Standing;I)J"⟩
abbrev cX9_without : ByteArray := prog_11_method_6_code
def yX9_without : MethodName := ⟨RX9, "without", "(JI)J"⟩
abbrev cX9_skillIn : ByteArray := prog_11_method_7_code
def yX9_skillIn : MethodName := ⟨RX9, "skillIn", "(III)I"⟩
abbrev cX9_unpack : ByteArray := prog_11_method_8_code
def yX9_unpack : MethodName := ⟨RX9, "unpack", "(IILWinnerTeaches$Standing;)V"⟩
abbrev cX9_total : ByteArray := prog_11_method_9_code
def yX9_total : MethodName := ⟨RX9, "total", "(I)I"⟩
abbrev cX9_firstWith : ByteArray := prog_11_method_10_code
def yX9_firstWith : MethodName := ⟨RX9, "firstWith", "(III)I"⟩
def RX10 : String := "WinnerTeaches$Text"
def TX10 : u_T := fun k => match k with
  | 0 => ("WinnerTeaches$Text", "signs", "[C", true)
  | _ => ("WinnerTeaches$Text", "length", "I", false)
def tyX10 : Nat → FieldType := fun k => match k with
  | 0 => .array .char
  | _ => .int
abbrev wsX100 : List Cond := u_ws RX10 TX10 2
theorem nmX10 : ∀ a, a < 2 → ∀ b, b < 2 → a ≠ b → (TX10 a).2.1 ≠ (TX10 b).2.1 := by decide +kernel
theorem tyX10_ok : ∀ k, k < 2 → parseFieldDescriptor (TX10 k).2.2.1 = some (tyX10 k) := by decide +kernel
abbrev cX10_init : ByteArray := prog_12_method_1_code
def yX10_init : MethodName := ⟨RX10, "<init>", "()V"⟩
abbrev cX10_add : ByteArray := prog_12_method_2_code
def yX10_add : MethodName := ⟨RX10, "add", "(I)Z"⟩
abbrev cX10_cut : ByteArray := prog_12_method_3_code
def yX10_cut : MethodName := ⟨RX10, "cut", "(I)Z"⟩
def RX11 : String := "WinnerTeaches"
def TX11 : u_T := fun k => match k with
  | 0 => ("WinnerTeaches", "text", "LWinnerTeaches$Text;", true)
  | 1 => ("WinnerTeaches", "league", "LWinnerTeaches$League;", true)
  | 2 => ("WinnerTeaches", "roster", "LWinnerTeaches$Roster;", true)
  | 3 => ("WinnerTeaches", "now", "LWinnerTeaches$Standing;", true)
  | 4 => ("WinnerTeaches", "scratch", "LWinnerTeaches$Standing;", true)
  | 5 => ("WinnerTeaches", "past", "LWinnerTeaches$Past;", true)
  | 6 => ("WinnerTeaches", "kept", "[LWinnerTeaches$Kept;", true)
  | 7 => ("WinnerTeaches", "search", "LWinnerTeaches$Search;", true)
  | 8 => ("WinnerTeaches", "season", "LWinnerTeaches$Season;", true)
  | 9 => ("WinnerTeaches", "plan", "LWinnerTeaches$Plan;", false)
  | 10 => ("WinnerTeaches", "sparePlan", "LWinnerTeaches$Plan;", false)
  | 11 => ("WinnerTeaches", "nextRound", "I", false)
  | 12 => ("WinnerTeaches", "seenFirst", "[I", true)
  | 13 => ("WinnerTeaches", "seenOther", "[I", true)
  | 14 => ("WinnerTeaches", "seenResult", "[I", true)
  | 15 => ("WinnerTeaches", "seenCount", "I", false)
  | 16 => ("WinnerTeaches", "perSide", "[I", true)
  | 17 => ("WinnerTeaches", "rowNumbers", "[J", true)
  | _ => ("WinnerTeaches", "rowCount", "I", false)
def tyX11 : Nat → FieldType := fun k => match k with
  | 0 => .object "WinnerTeaches$Text"
  | 1 => .object "WinnerTeaches$League"
  | 2 => .object "WinnerTeaches$Roster"
  | 3 => .object "WinnerTeaches$Standing"
  | 4 => .object "WinnerTeaches$Standing"
  | 5 => .object "WinnerTeaches$Past"
  | 6 => .array (.object "WinnerTeaches$Kept")
  | 7 => .object "WinnerTeaches$Search"
  | 8 => .object "WinnerTeaches$Season"
  | 9 => .object "WinnerTeaches$Plan"
  | 10 => .object "WinnerTeaches$Plan"
  | 11 => .int
  | 12 => .array .int
  | 13 => .array .int
  | 14 => .array .int
  | 15 => .int
  | 16 => .array .int
  | 17 => .array .long
  | _ => .int
abbrev wsX110 : List Cond := u_ws RX11 TX11 19
theorem nmX11 : ∀ a, a < 19 → ∀ b, b < 19 → a ≠ b → (TX11 a).2.1 ≠ (TX11 b).2.1 := by decide +kernel
theorem tyX11_ok : ∀ k, k < 19 → parseFieldDescriptor (TX11 k).2.2.1 = some (tyX11 k) := by decide +kernel
abbrev cX11_init : ByteArray := prog_1_method_1_code
def yX11_init : MethodName := ⟨RX11, "<init>", "()V"⟩
abbrev cX11_sign : ByteArray := prog_1_method_2_code
def yX11_sign : MethodName := ⟨RX11, "sign", "(I)I"⟩
abbrev cX11_end : ByteArray := prog_1_method_3_code
def yX11_end : MethodName := ⟨RX11, "end", "(I)Z"⟩
abbrev cX11_league : ByteArray := prog_1_method_4_code
def yX11_league : MethodName := ⟨RX11, "league", "()I"⟩
abbrev cX11_rule : ByteArray := prog_1_method_5_code
def yX11_rule : MethodName := ⟨RX11, "rule", "()I"⟩
abbrev cX11_plan : ByteArray := prog_1_method_6_code
def yX11_plan : MethodName := ⟨RX11, "plan", "()I"⟩
abbrev cX11_skill : ByteArray := prog_1_method_7_code
def yX11_skill : MethodName := ⟨RX11, "skill", "(II)I"⟩
abbrev cX11_of : ByteArray := prog_1_method_8_code
def yX11_of : MethodName := ⟨RX11, "of", "(II)I"⟩
abbrev cX11_law : ByteArray := prog_1_method_9_code
def yX11_law : MethodName := ⟨RX11, "law", "(II)I"⟩
abbrev cX11_sheet : ByteArray := prog_1_method_10_code
def yX11_sheet : MethodName := ⟨RX11, "sheet", "(IIIII)I"⟩
abbrev cX11_entry : ByteArray := prog_1_method_11_code
def yX11_entry : MethodName := ⟨RX11, "entry", "(II)I"⟩
abbrev cX11_clamp : ByteArray := prog_1_method_12_code
def yX11_clamp : MethodName := ⟨RX11, "clamp", "(III)I"⟩
abbrev cX11_ill : ByteArray := prog_1_method_13_code
def yX11_ill : MethodName := ⟨RX11, "ill", "(IZ)Z"⟩
abbrev cX11_swap : ByteArray := prog_1_method_14_code
def yX11_swap : MethodName := ⟨RX11, "swap", "(II)Z"⟩
abbrev cX11_circle : ByteArray := prog_1_method_15_code
def yX11_circle : MethodName := ⟨RX11, "circle", "()I"⟩
abbrev cX11_game : ByteArray := prog_1_method_16_code
def yX11_game : MethodName := ⟨RX11, "game", "(III)I"⟩
abbrev cX11_odds : ByteArray := prog_1_method_17_code
def yX11_odds : MethodName := ⟨RX11, "odds", "(II)I"⟩
abbrev cX11_play : ByteArray := prog_1_method_18_code
def yX11_play : MethodName := ⟨RX11, "play", "(III)I"⟩
abbrev cX11_playNow : ByteArray := prog_1_method_19_code
def yX11_playNow : MethodName := ⟨RX11, "playNow", "(III)I"⟩
abbrev cX11_undo : ByteArray := prog_1_method_20_code
def yX11_undo : MethodName := ⟨RX11, "undo", "()I"⟩
abbrev cX11_judge : ByteArray := prog_1_method_21_code
def yX11_judge : MethodName := ⟨RX11, "judge", "(II)I"⟩
abbrev cX11_playTold : ByteArray := prog_1_method_22_code
def yX11_playTold : MethodName := ⟨RX11, "playTold", "(I)Z"⟩
abbrev cX11_rounds : ByteArray := prog_1_method_23_code
def yX11_rounds : MethodName := ⟨RX11, "rounds", "(I)I"⟩
abbrev cX11_beats : ByteArray := prog_1_method_24_code
def yX11_beats : MethodName := ⟨RX11, "beats", "(I)I"⟩
abbrev cX11_sidesWithResult : ByteArray := prog_1_method_25_code
def yX11_sidesWithResult : MethodName := ⟨RX11, "sidesWithResult", "(II)I"⟩
abbrev cX11_kings : ByteArray := prog_1_method_26_code
def yX11_kings : MethodName := ⟨RX11, "kings", "()I"⟩
abbrev cX11_isKing : ByteArray := prog_1_method_27_code
def yX11_isKing : MethodName := ⟨RX11, "isKing", "(I)Z"⟩
abbrev cX11_master : ByteArray := prog_1_method_28_code
def yX11_master : MethodName := ⟨RX11, "master", "(I)I"⟩
abbrev cX11_table : ByteArray := prog_1_method_29_code
def yX11_table : MethodName := ⟨RX11, "table", "()I"⟩
abbrev cX11_standsAhead : ByteArray := prog_1_method_30_code
def yX11_standsAhead : MethodName := ⟨RX11, "standsAhead", "(II)Z"⟩
abbrev cX11_spread : ByteArray := prog_1_method_31_code
def yX11_spread : MethodName := ⟨RX11, "spread", "()I"⟩
abbrev cX11_rest : ByteArray := prog_1_method_32_code
def yX11_rest : MethodName := ⟨RX11, "rest", "()I"⟩
abbrev cX11_mean : ByteArray := prog_1_method_33_code
def yX11_mean : MethodName := ⟨RX11, "mean", "(II)I"⟩
abbrev cX11_soon : ByteArray := prog_1_method_34_code
def yX11_soon : MethodName := ⟨RX11, "soon", "(III)I"⟩
abbrev cX11_wins : ByteArray := prog_1_method_35_code
def yX11_wins : MethodName := ⟨RX11, "wins", "(III)I"⟩
abbrev cX11_hopes : ByteArray := prog_1_method_36_code
def yX11_hopes : MethodName := ⟨RX11, "hopes", "(I)I"⟩
abbrev cX11_allChances : ByteArray := prog_1_method_37_code
def yX11_allChances : MethodName := ⟨RX11, "allChances", "(I)J"⟩
abbrev cX11_top : ByteArray := prog_1_method_38_code
def yX11_top : MethodName := ⟨RX11, "top", "(III)I"⟩
abbrev cX11_quick : ByteArray := prog_1_method_39_code
def yX11_quick : MethodName := ⟨RX11, "quick", "(I)I"⟩
abbrev cX11_tellWayTo : ByteArray := prog_1_method_40_code
def yX11_tellWayTo : MethodName := ⟨RX11, "tellWayTo", "(I)I"⟩
abbrev cX11_best : ByteArray := prog_1_method_41_code
def yX11_best : MethodName := ⟨RX11, "best", "(II)I"⟩
abbrev cX11_even : ByteArray := prog_1_method_42_code
def yX11_even : MethodName := ⟨RX11, "even", "(I)I"⟩
abbrev cX11_all : ByteArray := prog_1_method_43_code
def yX11_all : MethodName := ⟨RX11, "all", "()I"⟩
abbrev cX11_next : ByteArray := prog_1_method_44_code
def yX11_next : MethodName := ⟨RX11, "next", "(I)I"⟩
abbrev cX11_powerAfter : ByteArray := prog_1_method_45_code
def yX11_powerAfter : MethodName := ⟨RX11, "powerAfter", "(IIII)I"⟩
abbrev cX11_seen : ByteArray := prog_1_method_46_code
def yX11_seen : MethodName := ⟨RX11, "seen", "(III)I"⟩
abbrev cX11_found : ByteArray := prog_1_method_47_code
def yX11_found : MethodName := ⟨RX11, "found", "()I"⟩
abbrev cX11_countThrowers : ByteArray := prog_1_method_48_code
def yX11_countThrowers : MethodName := ⟨RX11, "countThrowers", "(I)V"⟩
abbrev cX11_prize : ByteArray := prog_1_method_49_code
def yX11_prize : MethodName := ⟨RX11, "prize", "()I"⟩
abbrev cX11_pays : ByteArray := prog_1_method_50_code
def yX11_pays : MethodName := ⟨RX11, "pays", "(II)I"⟩
abbrev cX11_laws : ByteArray := prog_1_method_51_code
def yX11_laws : MethodName := ⟨RX11, "laws", "(I)I"⟩
abbrev cX11_playAhead : ByteArray := prog_1_method_52_code
def yX11_playAhead : MethodName := ⟨RX11, "playAhead", "(I)V"⟩
abbrev cX11_seed : ByteArray := prog_1_method_53_code
def yX11_seed : MethodName := ⟨RX11, "seed", "(I)I"⟩
abbrev cX11_keep : ByteArray := prog_1_method_54_code
def yX11_keep : MethodName := ⟨RX11, "keep", "(I)Z"⟩
abbrev cX11_again : ByteArray := prog_1_method_55_code
def yX11_again : MethodName := ⟨RX11, "again", "(I)Z"⟩
abbrev cX11_count : ByteArray := prog_1_method_56_code
def yX11_count : MethodName := ⟨RX11, "count", "(I)I"⟩
abbrev cX11_row : ByteArray := prog_1_method_57_code
def yX11_row : MethodName := ⟨RX11, "row", "(I)J"⟩
abbrev cX11_tell : ByteArray := prog_1_method_58_code
def yX11_tell : MethodName := ⟨RX11, "tell", "(J)V"⟩
abbrev cX11_tell_ : ByteArray := prog_1_method_59_code
def yX11_tell_ : MethodName := ⟨RX11, "tell", "(JJ)V"⟩
abbrev cX11_tell__ : ByteArray := prog_1_method_60_code
def yX11_tell__ : MethodName := ⟨RX11, "tell", "(JJJ)V"⟩
abbrev cX11_tellFraction : ByteArray := prog_1_method_61_code
def yX11_tellFraction : MethodName := ⟨RX11, "tellFraction", "(JJ)V"⟩
def RX12 : String := "WinnerTeachesModel"
def TX12 : u_T := fun k => match k with
  | 0 => ("WinnerTeachesModel", "arts", "I", false)
  | 1 => ("WinnerTeachesModel", "sides", "I", false)
  | 2 => ("WinnerTeachesModel", "skill", "[I", true)
  | 3 => ("WinnerTeachesModel", "isIll", "[Z", true)
  | 4 => ("WinnerTeachesModel", "points", "[I", true)
  | 5 => ("WinnerTeachesModel", "raised", "[I", true)
  | 6 => ("WinnerTeachesModel", "threw", "[I", true)
  | 7 => ("WinnerTeachesModel", "laws", "[I", true)
  | 8 => ("WinnerTeachesModel", "random", "I", false)
  | 9 => ("WinnerTeachesModel", "planned", "[I", true)
  | 10 => ("WinnerTeachesModel", "games", "I", false)
  | 11 => ("WinnerTeachesModel", "rounds", "I", false)
  | 12 => ("WinnerTeachesModel", "nextRound", "I", false)
  | 13 => ("WinnerTeachesModel", "text", "[B", true)
  | 14 => ("WinnerTeachesModel", "typed", "I", false)
  | 15 => ("WinnerTeachesModel", "row", "[J", true)
  | 16 => ("WinnerTeachesModel", "rowMany", "I", false)
  | 17 => ("WinnerTeachesModel", "thrown", "I", false)
  | 18 => ("WinnerTeachesModel", "read", "[B", false)
  | 19 => ("WinnerTeachesModel", "size", "I", false)
  | 20 => ("WinnerTeachesModel", "top", "I", false)
  | 21 => ("WinnerTeachesModel", "at", "I", false)
  | 22 => ("WinnerTeachesModel", "wrong", "I", false)
  | 23 => ("WinnerTeachesModel", "newSkill", "[I", true)
  | 24 => ("WinnerTeachesModel", "newIll", "[Z", true)
  | 25 => ("WinnerTeachesModel", "newPlan", "[I", true)
  | 26 => ("WinnerTeachesModel", "rule", "[B", true)
  | 27 => ("WinnerTeachesModel", "ruleSize", "I", false)
  | 28 => ("WinnerTeachesModel", "askedSide", "I", false)
  | 29 => ("WinnerTeachesModel", "undos", "[I", true)
  | 30 => ("WinnerTeachesModel", "undoMany", "I", false)
  | 31 => ("WinnerTeachesModel", "put", "[I", true)
  | 32 => ("WinnerTeachesModel", "played", "I", false)
  | 33 => ("WinnerTeachesModel", "drawn", "I", false)
  | 34 => ("WinnerTeachesModel", "strongest", "I", false)
  | 35 => ("WinnerTeachesModel", "weakest", "I", false)
  | 36 => ("WinnerTeachesModel", "placed", "[I", true)
  | 37 => ("WinnerTeachesModel", "quiet", "[I", true)
  | 38 => ("WinnerTeachesModel", "low", "[J", true)
  | 39 => ("WinnerTeachesModel", "high", "[J", true)
  | 40 => ("WinnerTeachesModel", "depth", "[I", true)
  | 41 => ("WinnerTeachesModel", "parent", "[I", true)
  | 42 => ("WinnerTeachesModel", "by", "[I", true)
  | 43 => ("WinnerTeachesModel", "states", "I", false)
  | 44 => ("WinnerTeachesModel", "table", "[I", true)
  | 45 => ("WinnerTeachesModel", "restAt", "I", false)
  | 46 => ("WinnerTeachesModel", "restRound", "I", false)
  | 47 => ("WinnerTeachesModel", "laid", "[I", true)
  | 48 => ("WinnerTeachesModel", "leastSum", "I", false)
  | 49 => ("WinnerTeachesModel", "mostSum", "I", false)
  | 50 => ("WinnerTeachesModel", "way", "[I", true)
  | 51 => ("WinnerTeachesModel", "seen", "[I", true)
  | 52 => ("WinnerTeachesModel", "seenMany", "I", false)
  | 53 => ("WinnerTeachesModel", "told", "I", false)
  | 54 => ("WinnerTeachesModel", "kept", "[I", true)
  | 55 => ("WinnerTeachesModel", "isKept", "[Z", true)
  | _ => ("WinnerTeachesModel", "keptTold", "[I", true)
def tyX12 : Nat → FieldType := fun k => match k with
  | 0 => .int
  | 1 => .int
  | 2 => .array .int
  | 3 => .array .boolean
  | 4 => .array .int
  | 5 => .array .int
  | 6 => .array .int
  | 7 => .array .int
  | 8 => .int
  | 9 => .array .int
  | 10 => .int
  | 11 => .int
  | 12 => .int
  | 13 => .array .byte
  | 14 => .int
  | 15 => .array .long
  | 16 => .int
  | 17 => .int
  | 18 => .array .byte
  | 19 => .int
  | 20 => .int
  | 21 => .int
  | 22 => .int
  | 23 => .array .int
  | 24 => .array .boolean
  | 25 => .array .int
  | 26 => .array .byte
  | 27 => .int
  | 28 => .int
  | 29 => .array .int
  | 30 => .int
  | 31 => .array .int
  | 32 => .int
  | 33 => .int
  | 34 => .int
  | 35 => .int
  | 36 => .array .int
  | 37 => .array .int
  | 38 => .array .long
  | 39 => .array .long
  | 40 => .array .int
  | 41 => .array .int
  | 42 => .array .int
  | 43 => .int
  | 44 => .array .int
  | 45 => .int
  | 46 => .int
  | 47 => .array .int
  | 48 => .int
  | 49 => .int
  | 50 => .array .int
  | 51 => .array .int
  | 52 => .int
  | 53 => .int
  | 54 => .array .int
  | 55 => .array .boolean
  | _ => .array .int
abbrev wsX120 : List Cond := u_ws RX12 TX12 57
theorem nmX12 : ∀ a, a < 57 → ∀ b, b < 57 → a ≠ b → (TX12 a).2.1 ≠ (TX12 b).2.1 := by decide +kernel
theorem tyX12_ok : ∀ k, k < 57 → parseFieldDescriptor (TX12 k).2.2.1 = some (tyX12 k) := by decide +kernel
abbrev cX12_init : ByteArray := prog_14_method_1_code
def yX12_init : MethodName := ⟨RX12, "<init>", "()V"⟩
abbrev cX12_thrown : ByteArray := prog_14_method_2_code
def yX12_thrown : MethodName := ⟨RX12, "thrown", "()I"⟩
abbrev cX12_in : ByteArray := prog_14_method_3_code
def yX12_in : MethodName := ⟨RX12, "in", "(JJJ)Z"⟩
abbrev cX12_has : ByteArray := prog_14_method_4_code
def yX12_has : MethodName := ⟨RX12, "has", "(II)Z"⟩
abbrev cX12_lost : ByteArray := prog_14_method_5_code
def yX12_lost : MethodName := ⟨RX12, "lost", "()I"⟩
abbrev cX12_tell : ByteArray := prog_14_method_6_code
def yX12_tell : MethodName := ⟨RX12, "tell", "(J)V"⟩
abbrev cX12_isSide : ByteArray := prog_14_method_7_code
def yX12_isSide : MethodName := ⟨RX12, "isSide", "(I)Z"⟩
abbrev cX12_isArt : ByteArray := prog_14_method_8_code
def yX12_isArt : MethodName := ⟨RX12, "isArt", "(I)Z"⟩
abbrev cX12_areTwo : ByteArray := prog_14_method_9_code
def yX12_areTwo : MethodName := ⟨RX12, "areTwo", "(II)Z"⟩
abbrev cX12_common : ByteArray := prog_14_method_10_code
def yX12_common : MethodName := ⟨RX12, "common", "(JJ)J"⟩
abbrev cX12_tellPart : ByteArray := prog_14_method_11_code
def yX12_tellPart : MethodName := ⟨RX12, "tellPart", "(JJ)V"⟩
abbrev cX12_sign : ByteArray := prog_14_method_12_code
def yX12_sign : MethodName := ⟨RX12, "sign", "(I)I"⟩
abbrev cX12_end : ByteArray := prog_14_method_13_code
def yX12_end : MethodName := ⟨RX12, "end", "(I)Z"⟩
abbrev cX12_begin : ByteArray := prog_14_method_14_code
def yX12_begin : MethodName := ⟨RX12, "begin", "([BII)V"⟩
abbrev cX12_here : ByteArray := prog_14_method_15_code
def yX12_here : MethodName := ⟨RX12, "here", "()I"⟩
abbrev cX12_fine : ByteArray := prog_14_method_16_code
def yX12_fine : MethodName := ⟨RX12, "fine", "()Z"⟩
abbrev cX12_fault : ByteArray := prog_14_method_17_code
def yX12_fault : MethodName := ⟨RX12, "fault", "(I)V"⟩
abbrev cX12_passes : ByteArray := prog_14_method_18_code
def yX12_passes : MethodName := ⟨RX12, "passes", "(C)Z"⟩
abbrev cX12_need : ByteArray := prog_14_method_19_code
def yX12_need : MethodName := ⟨RX12, "need", "(C)V"⟩
abbrev cX12_digit : ByteArray := prog_14_method_20_code
def yX12_digit : MethodName := ⟨RX12, "digit", "(II)I"⟩
abbrev cX12_number : ByteArray := prog_14_method_21_code
def yX12_number : MethodName := ⟨RX12, "number", "(I)I"⟩
abbrev cX12_league : ByteArray := prog_14_method_22_code
def yX12_league : MethodName := ⟨RX12, "league", "()I"⟩
abbrev cX12_plan : ByteArray := prog_14_method_23_code
def yX12_plan : MethodName := ⟨RX12, "plan", "()I"⟩
abbrev cX12_side : ByteArray := prog_14_method_24_code
def yX12_side : MethodName := ⟨RX12, "side", "(I)I"⟩
abbrev cX12_held : ByteArray := prog_14_method_25_code
def yX12_held : MethodName := ⟨RX12, "held", "(I)I"⟩
abbrev cX12_sum : ByteArray := prog_14_method_26_code
def yX12_sum : MethodName := ⟨RX12, "sum", "(I)I"⟩
abbrev cX12_product : ByteArray := prog_14_method_27_code
def yX12_product : MethodName := ⟨RX12, "product", "(I)I"⟩
abbrev cX12_thing : ByteArray := prog_14_method_28_code
def yX12_thing : MethodName := ⟨RX12, "thing", "(I)I"⟩
abbrev cX12_letter : ByteArray := prog_14_method_29_code
def yX12_letter : MethodName := ⟨RX12, "letter", "(I)I"⟩
abbrev cX12_rule : ByteArray := prog_14_method_30_code
def yX12_rule : MethodName := ⟨RX12, "rule", "()I"⟩
abbrev cX12_sumOf : ByteArray := prog_14_method_31_code
def yX12_sumOf : MethodName := ⟨RX12, "sumOf", "(I)I"⟩
abbrev cX12_sumOfAll : ByteArray := prog_14_method_32_code
def yX12_sumOfAll : MethodName := ⟨RX12, "sumOfAll", "()I"⟩
abbrev cX12_power : ByteArray := prog_14_method_33_code
def yX12_power : MethodName := ⟨RX12, "power", "(I)I"⟩
abbrev cX12_skill : ByteArray := prog_14_method_34_code
def yX12_skill : MethodName := ⟨RX12, "skill", "(II)I"⟩
abbrev cX12_of : ByteArray := prog_14_method_35_code
def yX12_of : MethodName := ⟨RX12, "of", "(II)I"⟩
abbrev cX12_law : ByteArray := prog_14_method_36_code
def yX12_law : MethodName := ⟨RX12, "law", "(II)I"⟩
abbrev cX12_sheet : ByteArray := prog_14_method_37_code
def yX12_sheet : MethodName := ⟨RX12, "sheet", "(IIIII)I"⟩
abbrev cX12_ill : ByteArray := prog_14_method_38_code
def yX12_ill : MethodName := ⟨RX12, "ill", "(IZ)Z"⟩
abbrev cX12_winner : ByteArray := prog_14_method_39_code
def yX12_winner : MethodName := ⟨RX12, "winner", "(III)I"⟩
abbrev cX12_artOf : ByteArray := prog_14_method_40_code
def yX12_artOf : MethodName := ⟨RX12, "artOf", "(II)I"⟩
abbrev cX12_gainOf : ByteArray := prog_14_method_41_code
def yX12_gainOf : MethodName := ⟨RX12, "gainOf", "(III)I"⟩
abbrev cX12_teach : ByteArray := prog_14_method_42_code
def yX12_teach : MethodName := ⟨RX12, "teach", "(II)V"⟩
abbrev cX12_isThrown : ByteArray := prog_14_method_43_code
def yX12_isThrown : MethodName := ⟨RX12, "isThrown", "(I)Z"⟩
abbrev cX12_game : ByteArray := prog_14_method_44_code
def yX12_game : MethodName := ⟨RX12, "game", "(III)I"⟩
abbrev cX12_chanceOf : ByteArray := prog_14_method_45_code
def yX12_chanceOf : MethodName := ⟨RX12, "chanceOf", "(II)I"⟩
abbrev cX12_odds : ByteArray := prog_14_method_46_code
def yX12_odds : MethodName := ⟨RX12, "odds", "(II)I"⟩
abbrev cX12_settle : ByteArray := prog_14_method_47_code
def yX12_settle : MethodName := ⟨RX12, "settle", "(IIII)V"⟩
abbrev cX12_drawHundred : ByteArray := prog_14_method_48_code
def yX12_drawHundred : MethodName := ⟨RX12, "drawHundred", "()I"⟩
abbrev cX12_goGame : ByteArray := prog_14_method_49_code
def yX12_goGame : MethodName := ⟨RX12, "goGame", "(IIIZ)I"⟩
abbrev cX12_lay : ByteArray := prog_14_method_50_code
def yX12_lay : MethodName := ⟨RX12, "lay", "([II)V"⟩
abbrev cX12_bring : ByteArray := prog_14_method_51_code
def yX12_bring : MethodName := ⟨RX12, "bring", "([II)V"⟩
abbrev cX12_remember : ByteArray := prog_14_method_52_code
def yX12_remember : MethodName := ⟨RX12, "remember", "()V"⟩
abbrev cX12_play : ByteArray := prog_14_method_53_code
def yX12_play : MethodName := ⟨RX12, "play", "(III)I"⟩
abbrev cX12_undo : ByteArray := prog_14_method_54_code
def yX12_undo : MethodName := ⟨RX12, "undo", "()I"⟩
abbrev cX12_judge : ByteArray := prog_14_method_55_code
def yX12_judge : MethodName := ⟨RX12, "judge", "(II)I"⟩
abbrev cX12_goRounds : ByteArray := prog_14_method_56_code
def yX12_goRounds : MethodName := ⟨RX12, "goRounds", "(IIZZ)V"⟩
abbrev cX12_rounds : ByteArray := prog_14_method_57_code
def yX12_rounds : MethodName := ⟨RX12, "rounds", "(I)I"⟩
abbrev cX12_isAhead : ByteArray := prog_14_method_58_code
def yX12_isAhead : MethodName := ⟨RX12, "isAhead", "(II)Z"⟩
abbrev cX12_table : ByteArray := prog_14_method_59_code
def yX12_table : MethodName := ⟨RX12, "table", "()I"⟩
abbrev cX12_spreadNow : ByteArray := prog_14_method_60_code
def yX12_spreadNow : MethodName := ⟨RX12, "spreadNow", "()I"⟩
abbrev cX12_spread : ByteArray := prog_14_method_61_code
def yX12_spread : MethodName := ⟨RX12, "spread", "()I"⟩
abbrev cX12_swap : ByteArray := prog_14_method_62_code
def yX12_swap : MethodName := ⟨RX12, "swap", "(II)Z"⟩
abbrev cX12_circle : ByteArray := prog_14_method_63_code
def yX12_circle : MethodName := ⟨RX12, "circle", "()I"⟩
abbrev cX12_beatenBy : ByteArray := prog_14_method_64_code
def yX12_beatenBy : MethodName := ⟨RX12, "beatenBy", "(I)I"⟩
abbrev cX12_beats : ByteArray := prog_14_method_65_code
def yX12_beats : MethodName := ⟨RX12, "beats", "(I)I"⟩
abbrev cX12_kings : ByteArray := prog_14_method_66_code
def yX12_kings : MethodName := ⟨RX12, "kings", "()I"⟩
abbrev cX12_master : ByteArray := prog_14_method_67_code
def yX12_master : MethodName := ⟨RX12, "master", "(I)I"⟩
abbrev cX12_goQuiet : ByteArray := prog_14_method_68_code
def yX12_goQuiet : MethodName := ⟨RX12, "goQuiet", "(III)V"⟩
abbrev cX12_half : ByteArray := prog_14_method_69_code
def yX12_half : MethodName := ⟨RX12, "half", "(I)J"⟩
abbrev cX12_load : ByteArray := prog_14_method_70_code
def yX12_load : MethodName := ⟨RX12, "load", "(I)V"⟩
abbrev cX12_slot : ByteArray := prog_14_method_71_code
def yX12_slot : MethodName := ⟨RX12, "slot", "(JJ)I"⟩
abbrev cX12_clearStates : ByteArray := prog_14_method_72_code
def yX12_clearStates : MethodName := ⟨RX12, "clearStates", "()V"⟩
abbrev cX12_stateNow : ByteArray := prog_14_method_73_code
def yX12_stateNow : MethodName := ⟨RX12, "stateNow", "(III)I"⟩
abbrev cX12_goTurn : ByteArray := prog_14_method_74_code
def yX12_goTurn : MethodName := ⟨RX12, "goTurn", "()V"⟩
abbrev cX12_findRest : ByteArray := prog_14_method_75_code
def yX12_findRest : MethodName := ⟨RX12, "findRest", "()Z"⟩
abbrev cX12_rest : ByteArray := prog_14_method_76_code
def yX12_rest : MethodName := ⟨RX12, "rest", "()I"⟩
abbrev cX12_skillIn : ByteArray := prog_14_method_77_code
def yX12_skillIn : MethodName := ⟨RX12, "skillIn", "(III)I"⟩
abbrev cX12_mean : ByteArray := prog_14_method_78_code
def yX12_mean : MethodName := ⟨RX12, "mean", "(II)I"⟩
abbrev cX12_soon : ByteArray := prog_14_method_79_code
def yX12_soon : MethodName := ⟨RX12, "soon", "(III)I"⟩
abbrev cX12_power100 : ByteArray := prog_14_method_80_code
def yX12_power100 : MethodName := ⟨RX12, "power100", "(I)J"⟩
abbrev cX12_chanceOfWins : ByteArray := prog_14_method_81_code
def yX12_chanceOfWins : MethodName := ⟨RX12, "chanceOfWins", "(IIII)J"⟩
abbrev cX12_chanceBehind : ByteArray := prog_14_method_82_code
def yX12_chanceBehind : MethodName := ⟨RX12, "chanceBehind", "(IIIII)J"⟩
abbrev cX12_wins : ByteArray := prog_14_method_83_code
def yX12_wins : MethodName := ⟨RX12, "wins", "(III)I"⟩
abbrev cX12_hopeOf : ByteArray := prog_14_method_84_code
def yX12_hopeOf : MethodName := ⟨RX12, "hopeOf", "(II)J"⟩
abbrev cX12_hopeBehind : ByteArray := prog_14_method_85_code
def yX12_hopeBehind : MethodName := ⟨RX12, "hopeBehind", "(III)J"⟩
abbrev cX12_hopes : ByteArray := prog_14_method_86_code
def yX12_hopes : MethodName := ⟨RX12, "hopes", "(I)I"⟩
abbrev cX12_findStates : ByteArray := prog_14_method_87_code
def yX12_findStates : MethodName := ⟨RX12, "findStates", "(I)Z"⟩
abbrev cX12_tellWay : ByteArray := prog_14_method_88_code
def yX12_tellWay : MethodName := ⟨RX12, "tellWay", "(I)I"⟩
abbrev cX12_top : ByteArray := prog_14_method_89_code
def yX12_top : MethodName := ⟨RX12, "top", "(III)I"⟩
abbrev cX12_quick : ByteArray := prog_14_method_90_code
def yX12_quick : MethodName := ⟨RX12, "quick", "(I)I"⟩
abbrev cX12_best : ByteArray := prog_14_method_91_code
def yX12_best : MethodName := ⟨RX12, "best", "(II)I"⟩
abbrev cX12_even : ByteArray := prog_14_method_92_code
def yX12_even : MethodName := ⟨RX12, "even", "(I)I"⟩
abbrev cX12_all : ByteArray := prog_14_method_93_code
def yX12_all : MethodName := ⟨RX12, "all", "()I"⟩
abbrev cX12_next : ByteArray := prog_14_method_94_code
def yX12_next : MethodName := ⟨RX12, "next", "(I)I"⟩
abbrev cX12_seen : ByteArray := prog_14_method_95_code
def yX12_seen : MethodName := ⟨RX12, "seen", "(III)I"⟩
abbrev cX12_found : ByteArray := prog_14_method_96_code
def yX12_found : MethodName := ⟨RX12, "found", "()I"⟩
abbrev cX12_prize : ByteArray := prog_14_method_97_code
def yX12_prize : MethodName := ⟨RX12, "prize", "()I"⟩
abbrev cX12_pointsBehind : ByteArray := prog_14_method_98_code
def yX12_pointsBehind : MethodName := ⟨RX12, "pointsBehind", "(II)I"⟩
abbrev cX12_pays : ByteArray := prog_14_method_99_code
def yX12_pays : MethodName := ⟨RX12, "pays", "(II)I"⟩
abbrev cX12_laws : ByteArray := prog_14_method_100_code
def yX12_laws : MethodName := ⟨RX12, "laws", "(I)I"⟩
abbrev cX12_seed : ByteArray := prog_14_method_101_code
def yX12_seed : MethodName := ⟨RX12, "seed", "(I)I"⟩
abbrev cX12_keep : ByteArray := prog_14_method_102_code
def yX12_keep : MethodName := ⟨RX12, "keep", "(I)Z"⟩
abbrev cX12_again : ByteArray := prog_14_method_103_code
def yX12_again : MethodName := ⟨RX12, "again", "(I)Z"⟩
abbrev cX12_count : ByteArray := prog_14_method_104_code
def yX12_count : MethodName := ⟨RX12, "count", "(I)I"⟩
abbrev cX12_row : ByteArray := prog_14_method_105_code
def yX12_row : MethodName := ⟨RX12, "row", "(I)J"⟩
def RJ6 : String := "java/lang/Integer"
def TJ6 : u_T := fun k => match k with
  | _ => ("", "", "", false)
def tyJ6 : Nat → FieldType := fun k => match k with
  | _ => .int
theorem nmJ6 : ∀ a, a < 0 → ∀ b, b < 0 → a ≠ b → (TJ6 a).2.1 ≠ (TJ6 b).2.1 := by decide +kernel
theorem tyJ6_ok : ∀ k, k < 0 → parseFieldDescriptor (TJ6 k).2.2.1 = some (tyJ6 k) := by decide +kernel
abbrev cJ6_bitCount_0f7a4 : ByteArray := prog_17_method_49_code
def yJ6_bitCount_0f7a4 : MethodName := ⟨RJ6, "bitCount", "(I)I"⟩
def RJ9 : String := "java/lang/Math"
def TJ9 : u_T := fun k => match k with
  | _ => ("", "", "", false)
def tyJ9 : Nat → FieldType := fun k => match k with
  | _ => .int
theorem nmJ9 : ∀ a, a < 0 → ∀ b, b < 0 → a ≠ b → (TJ9 a).2.1 ≠ (TJ9 b).2.1 := by decide +kernel
theorem tyJ9_ok : ∀ k, k < 0 → parseFieldDescriptor (TJ9 k).2.2.1 = some (tyJ9 k) := by decide +kernel
abbrev cJ9_max_7cf53 : ByteArray := prog_18_method_65_code
def yJ9_max_7cf53 : MethodName := ⟨RJ9, "max", "(II)I"⟩
abbrev cJ9_min_7cf53 : ByteArray := prog_18_method_69_code
def yJ9_min_7cf53 : MethodName := ⟨RJ9, "min", "(II)I"⟩
def RJ10 : String := "java/lang/System"
def TJ10 : u_T := fun k => match k with
  | _ => ("", "", "", false)
def tyJ10 : Nat → FieldType := fun k => match k with
  | _ => .int
theorem nmJ10 : ∀ a, a < 0 → ∀ b, b < 0 → a ≠ b → (TJ10 a).2.1 ≠ (TJ10 b).2.1 := by decide +kernel
theorem tyJ10_ok : ∀ k, k < 0 → parseFieldDescriptor (TJ10 k).2.2.1 = some (tyJ10 k) := by decide +kernel
def RL : String := "WinnerTeachesLaw"
abbrev cL_of : ByteArray := method_3_code
def yL_of : MethodName := ⟨RL, "of", "(LWinnerTeaches;II[J)I"⟩
abbrev cL_row : ByteArray := method_4_code
def yL_row : MethodName := ⟨RL, "row", "(LWinnerTeaches;I[J)I"⟩
abbrev cL_law : ByteArray := code
def yL_law : MethodName := ⟨RL, "law", "([I)Z"⟩
abbrev vwCl : List vw_C := [(RX0, TX0, 5), (RX1, TX1, 8), (RX2, TX2, 3), (RX3, TX3, 9), (RX4, TX4, 8), (RX5, TX5, 9), (RX6, TX6, 7), (RX7, TX7, 6), (RX8, TX8, 5), (RX9, TX9, 6), (RX10, TX10, 2), (RX11, TX11, 19), (RX12, TX12, 57)]
end
