/-! DECODE ROWS IN ONE WALK: the array is walked once up to the instruction, its bytes are compared, and a row for each opcode says what it decodes to -/
section DQ
noncomputable def mqL {α : Type} (l : List α) : Nat → List α := @List.rec α (fun _ => Nat → List α) (fun _ => []) (fun a t f n => @Nat.rec (fun _ => List α) (a :: t) (fun m _ => f m) n) l
noncomputable def mqH {α : Type} (l : List α) (n : Nat) : Option α := @List.rec α (fun _ => Option α) none (fun a _ _ => some a) (mqL l n)
theorem mq_mem {α : Type} {l : List α} : ∀ {n : Nat} {w : α}, mqH l n = some w → w ∈ l := by
  induction l with
  | nil =>
    intro n w h
    have h' : (none : Option α) = some w := h
    cases h'
  | cons a l ih =>
    intro n w h
    cases n with
    | zero =>
      have h' : some a = some w := h
      injection h' with e
      subst e
      exact List.Mem.head _
    | succ n =>
      have h' : mqH l n = some w := h
      exact List.Mem.tail _ (ih h')
theorem mq_get {α : Type} {l : List α} : ∀ {n : Nat} {w : α}, mqH l n = some w → l[n]? = some w := by
  induction l with
  | nil =>
    intro n w h
    have h' : (none : Option α) = some w := h
    cases h'
  | cons a l ih =>
    intro n w h
    cases n with
    | zero => exact h
    | succ n =>
      have h' : mqH l n = some w := h
      exact ih h'
noncomputable def dqL (l : List UInt8) : Nat → List UInt8 := @List.rec UInt8 (fun _ => Nat → List UInt8) (fun _ => []) (fun a t f n => @Nat.rec (fun _ => List UInt8) (a :: t) (fun m _ => f m) n) l
theorem dqL_0 (l : List UInt8) : dqL l 0 = l := by cases l <;> rfl
theorem dq_rd {l : List UInt8} : ∀ {p : Nat} {a : UInt8} {t : List UInt8}, dqL l p = a :: t → ∃ h : p < l.length, l[p] = a ∧ dqL l (p + 1) = t := by
  induction l with
  | nil =>
    intro p a t h
    have h' : ([] : List UInt8) = a :: t := h
    cases h'
  | cons x l ih =>
    intro p a t h
    cases p with
    | zero =>
      have h' : x :: l = a :: t := h
      injection h' with h1 h2
      exact ⟨Nat.succ_pos _, h1, (dqL_0 l).trans h2⟩
    | succ p =>
      have h' : dqL l p = a :: t := h
      obtain ⟨q1, q2, q3⟩ := ih h'
      exact ⟨Nat.succ_lt_succ q1, q2, q3⟩
theorem dq_nx {l : List UInt8} {p : Nat} {a : UInt8} {t : List UInt8} (h : dqL l p = a :: t) : dqL l (p + 1) = t := (dq_rd h).2.2
theorem dq_u1 {c : ByteArray} {p : Nat} {a : UInt8} {t : List UInt8} (h : dqL c.data.toList p = a :: t) : Jvm.ClassFile.Reader.runAt (Jvm.ClassFile.Reader.u1 : Jvm.ClassFile.Decoder Nat) c p = .ok (a.toNat, p + 1) := by
  obtain ⟨⟨l⟩⟩ := c
  obtain ⟨q1, q2, -⟩ := dq_rd (l := l) h
  have e : p < (ByteArray.mk (Array.mk l)).size := q1
  show (dite (p < (ByteArray.mk (Array.mk l)).size) _ _ : Jvm.ClassFile.Decoder Nat) _ p = _
  rw [dif_pos e]
  show Except.ok ((l[p]).toNat, p + 1) = _
  rw [q2]
theorem dq_bind {α β : Type} {c : ByteArray} {p s : Nat} {a : α} {r : Jvm.ClassFile.Decoder α} {f : α → Jvm.ClassFile.Decoder β} (h : Jvm.ClassFile.Reader.runAt r c p = .ok (a, s)) : Jvm.ClassFile.Reader.runAt (r >>= f) c p = Jvm.ClassFile.Reader.runAt (f a) c s := by
  show Except.bind (Jvm.ClassFile.Reader.runAt r c p) _ = _
  rw [h]
  rfl
theorem dq_map {α β : Type} {c : ByteArray} {p s : Nat} {a : α} {r : Jvm.ClassFile.Decoder α} {f : α → β} (h : Jvm.ClassFile.Reader.runAt r c p = .ok (a, s)) : Jvm.ClassFile.Reader.runAt (f <$> r) c p = .ok (f a, s) := by
  show Except.bind (Jvm.ClassFile.Reader.runAt r c p) _ = _
  rw [h]
  rfl
theorem dq_u2 {c : ByteArray} {p : Nat} {a b : UInt8} {t : List UInt8} (h : dqL c.data.toList p = a :: b :: t) : Jvm.ClassFile.Reader.runAt (Jvm.ClassFile.Reader.u2 : Jvm.ClassFile.Decoder Nat) c p = .ok (a.toNat * 256 + b.toNat, p + 2) :=
  (dq_bind (dq_u1 h)).trans ((dq_bind (dq_u1 (dq_nx h))).trans rfl)
noncomputable def dqK : {k : Nat → Nat → Jvm.ClassFile.Decoder Instr // ∀ x, Jvm.ClassFile.Decoder.instr x = (Jvm.ClassFile.Reader.u1 >>= k x)} := ⟨_, fun x => rfl⟩
theorem dq_op {c : ByteArray} {p o : Nat} {a : UInt8} {t : List UInt8} (h : dqL c.data.toList p = a :: t) (e : a.toNat = o) : Jvm.ClassFile.Reader.runAt (Jvm.ClassFile.Decoder.instr p) c p = Jvm.ClassFile.Reader.runAt (dqK.1 p o) c (p + 1) := by
  subst e
  rw [dqK.2 p]
  exact dq_bind (dq_u1 h)
theorem dq_dec {c : ByteArray} {p n : Nat} {I : Instr} (h : Jvm.ClassFile.Reader.runAt (Jvm.ClassFile.Decoder.instr p) c p = .ok (I, p + n)) : decode c p = .ok (I, n) := by
  have e1 : decode c p = .ok (I, p + n - p) := by
    show Except.bind (Jvm.ClassFile.Reader.runAt (Jvm.ClassFile.Decoder.instr p) c p) _ = _
    rw [h]
    rfl
  rw [e1, Nat.add_sub_cancel_left]
noncomputable def dq0 (c : ByteArray) (p o : Nat) : Bool := match dqL c.data.toList p with
  | a :: _ => Nat.beq a.toNat o
  | [] => false
noncomputable def dq1 (c : ByteArray) (p o i : Nat) : Bool := match dqL c.data.toList p with
  | a :: b :: _ => Nat.beq a.toNat o && Nat.beq b.toNat i
  | _ => false
noncomputable def dq2 (c : ByteArray) (p o i : Nat) : Bool := match dqL c.data.toList p with
  | a :: b :: d :: _ => Nat.beq a.toNat o && Nat.beq (b.toNat * 256 + d.toNat) i
  | _ => false
noncomputable def dq3 (c : ByteArray) (p o : Nat) (i : Int) : Bool := match dqL c.data.toList p with
  | a :: b :: _ => Nat.beq a.toNat o && decide (Jvm.ClassFile.Reader.signed 8 b.toNat = i)
  | _ => false
noncomputable def dq4 (c : ByteArray) (p o : Nat) (i : Int) : Bool := match dqL c.data.toList p with
  | a :: b :: d :: _ => Nat.beq a.toNat o && decide (Jvm.ClassFile.Reader.signed 16 (b.toNat * 256 + d.toNat) = i)
  | _ => false
noncomputable def dq5 (c : ByteArray) (p o n : Nat) (i : Int) : Bool := match dqL c.data.toList p with
  | a :: b :: d :: _ => Nat.beq a.toNat o && (Nat.beq b.toNat n && decide (Jvm.ClassFile.Reader.signed 8 d.toNat = i))
  | _ => false
theorem dq_0 {c : ByteArray} {p o : Nat} {I : Instr} (ho : ∀ x, dqK.1 x o = (Pure.pure I : Jvm.ClassFile.Decoder Instr)) (h : dq0 c p o = true) : decode c p = .ok (I, 1) := by
  cases hx : dqL c.data.toList p with
  | nil => rw [dq0, hx] at h; cases h
  | cons a t =>
    rw [dq0, hx] at h
    refine dq_dec ((dq_op hx (Nat.eq_of_beq_eq_true h)).trans ?_)
    rw [ho]
    rfl
theorem dq_1 {c : ByteArray} {p o i : Nat} {C : Nat → Instr} (ho : ∀ x, dqK.1 x o = (Jvm.ClassFile.Reader.u1 >>= fun n => Pure.pure (C n))) (h : dq1 c p o i = true) : decode c p = .ok (C i, 2) := by
  rcases hx : dqL c.data.toList p with _ | ⟨a, _ | ⟨b, t⟩⟩
  · rw [dq1, hx] at h; cases h
  · rw [dq1, hx] at h; cases h
  · rw [dq1, hx] at h
    have h1 := Bool.and_eq_true_iff.mp h
    refine dq_dec ((dq_op hx (Nat.eq_of_beq_eq_true h1.1)).trans ?_)
    rw [ho]
    have e := Nat.eq_of_beq_eq_true h1.2
    subst e
    exact (dq_bind (dq_u1 (dq_nx hx))).trans rfl
theorem dq_2 {c : ByteArray} {p o i : Nat} {C : Nat → Instr} (ho : ∀ x, dqK.1 x o = (Jvm.ClassFile.Reader.u2 >>= fun n => Pure.pure (C n))) (h : dq2 c p o i = true) : decode c p = .ok (C i, 3) := by
  rcases hx : dqL c.data.toList p with _ | ⟨a, _ | ⟨b, _ | ⟨d, t⟩⟩⟩
  · rw [dq2, hx] at h; cases h
  · rw [dq2, hx] at h; cases h
  · rw [dq2, hx] at h; cases h
  · rw [dq2, hx] at h
    have h1 := Bool.and_eq_true_iff.mp h
    refine dq_dec ((dq_op hx (Nat.eq_of_beq_eq_true h1.1)).trans ?_)
    rw [ho]
    have e := Nat.eq_of_beq_eq_true h1.2
    subst e
    exact (dq_bind (dq_u2 (dq_nx hx))).trans rfl
theorem dq_3 {c : ByteArray} {p o : Nat} {i : Int} {C : Int → Instr} (ho : ∀ x, dqK.1 x o = (Jvm.ClassFile.Reader.s1 >>= fun n => Pure.pure (C n))) (h : dq3 c p o i = true) : decode c p = .ok (C i, 2) := by
  rcases hx : dqL c.data.toList p with _ | ⟨a, _ | ⟨b, t⟩⟩
  · rw [dq3, hx] at h; cases h
  · rw [dq3, hx] at h; cases h
  · rw [dq3, hx] at h
    have h1 := Bool.and_eq_true_iff.mp h
    refine dq_dec ((dq_op hx (Nat.eq_of_beq_eq_true h1.1)).trans ?_)
    rw [ho]
    have e := of_decide_eq_true h1.2
    subst e
    exact (dq_bind (r := Jvm.ClassFile.Reader.s1) (dq_map (dq_u1 (dq_nx hx)))).trans rfl
theorem dq_4 {c : ByteArray} {p o : Nat} {i : Int} {C : Int → Instr} (ho : ∀ x, dqK.1 x o = (Jvm.ClassFile.Reader.s2 >>= fun n => Pure.pure (C n))) (h : dq4 c p o i = true) : decode c p = .ok (C i, 3) := by
  rcases hx : dqL c.data.toList p with _ | ⟨a, _ | ⟨b, _ | ⟨d, t⟩⟩⟩
  · rw [dq4, hx] at h; cases h
  · rw [dq4, hx] at h; cases h
  · rw [dq4, hx] at h; cases h
  · rw [dq4, hx] at h
    have h1 := Bool.and_eq_true_iff.mp h
    refine dq_dec ((dq_op hx (Nat.eq_of_beq_eq_true h1.1)).trans ?_)
    rw [ho]
    have e := of_decide_eq_true h1.2
    subst e
    exact (dq_bind (r := Jvm.ClassFile.Reader.s2) (dq_map (dq_u2 (dq_nx hx)))).trans rfl
theorem dq_5 {c : ByteArray} {p o n : Nat} {i : Int} {C : Nat → Int → Instr} (ho : ∀ x, dqK.1 x o = (Jvm.ClassFile.Reader.u1 >>= fun n => Jvm.ClassFile.Reader.s1 >>= fun i => Pure.pure (C n i))) (h : dq5 c p o n i = true) : decode c p = .ok (C n i, 3) := by
  rcases hx : dqL c.data.toList p with _ | ⟨a, _ | ⟨b, _ | ⟨d, t⟩⟩⟩
  · rw [dq5, hx] at h; cases h
  · rw [dq5, hx] at h; cases h
  · rw [dq5, hx] at h; cases h
  · rw [dq5, hx] at h
    have h1 := Bool.and_eq_true_iff.mp h
    have h2 := Bool.and_eq_true_iff.mp h1.2
    refine dq_dec ((dq_op hx (Nat.eq_of_beq_eq_true h1.1)).trans ?_)
    rw [ho]
    have e := Nat.eq_of_beq_eq_true h2.1
    have e' := of_decide_eq_true h2.2
    subst e e'
    exact (dq_bind (dq_u1 (dq_nx hx))).trans ((dq_bind (r := Jvm.ClassFile.Reader.s1) (dq_map (dq_u1 (dq_nx (dq_nx hx))))).trans rfl)
theorem dr_2 {c : ByteArray} {p : Nat} (h : dq0 c p 2 = true) : decode c p = .ok (.iconst (-1), 1) := dq_0 (o := 2) (fun _ => rfl) h
theorem dr_3 {c : ByteArray} {p : Nat} (h : dq0 c p 3 = true) : decode c p = .ok (.iconst 0, 1) := dq_0 (o := 3) (fun _ => rfl) h
theorem dr_4 {c : ByteArray} {p : Nat} (h : dq0 c p 4 = true) : decode c p = .ok (.iconst 1, 1) := dq_0 (o := 4) (fun _ => rfl) h
theorem dr_5 {c : ByteArray} {p : Nat} (h : dq0 c p 5 = true) : decode c p = .ok (.iconst 2, 1) := dq_0 (o := 5) (fun _ => rfl) h
theorem dr_6 {c : ByteArray} {p : Nat} (h : dq0 c p 6 = true) : decode c p = .ok (.iconst 3, 1) := dq_0 (o := 6) (fun _ => rfl) h
theorem dr_7 {c : ByteArray} {p : Nat} (h : dq0 c p 7 = true) : decode c p = .ok (.iconst 4, 1) := dq_0 (o := 7) (fun _ => rfl) h
theorem dr_8 {c : ByteArray} {p : Nat} (h : dq0 c p 8 = true) : decode c p = .ok (.iconst 5, 1) := dq_0 (o := 8) (fun _ => rfl) h
theorem dr_9 {c : ByteArray} {p : Nat} (h : dq0 c p 9 = true) : decode c p = .ok (.lconst 0, 1) := dq_0 (o := 9) (fun _ => rfl) h
theorem dr_10 {c : ByteArray} {p : Nat} (h : dq0 c p 10 = true) : decode c p = .ok (.lconst 1, 1) := dq_0 (o := 10) (fun _ => rfl) h
theorem dr_16 {c : ByteArray} {p : Nat} {i : Int} (h : dq3 c p 16 i = true) : decode c p = .ok (.bipush i, 2) := dq_3 (o := 16) (C := fun n => .bipush n) (fun _ => rfl) h
theorem dr_17 {c : ByteArray} {p : Nat} {i : Int} (h : dq4 c p 17 i = true) : decode c p = .ok (.sipush i, 3) := dq_4 (o := 17) (C := fun n => .sipush n) (fun _ => rfl) h
theorem dr_18 {c : ByteArray} {p i : Nat} (h : dq1 c p 18 i = true) : decode c p = .ok (.ldc i, 2) := dq_1 (o := 18) (C := fun n => .ldc n) (fun _ => rfl) h
theorem dr_19 {c : ByteArray} {p i : Nat} (h : dq2 c p 19 i = true) : decode c p = .ok (.ldc_w i, 3) := dq_2 (o := 19) (C := fun n => .ldc_w n) (fun _ => rfl) h
theorem dr_20 {c : ByteArray} {p i : Nat} (h : dq2 c p 20 i = true) : decode c p = .ok (.ldc2_w i, 3) := dq_2 (o := 20) (C := fun n => .ldc2_w n) (fun _ => rfl) h
theorem dr_21 {c : ByteArray} {p i : Nat} (h : dq1 c p 21 i = true) : decode c p = .ok (.iload i, 2) := dq_1 (o := 21) (C := fun n => .iload n) (fun _ => rfl) h
theorem dr_22 {c : ByteArray} {p i : Nat} (h : dq1 c p 22 i = true) : decode c p = .ok (.lload i, 2) := dq_1 (o := 22) (C := fun n => .lload n) (fun _ => rfl) h
theorem dr_26 {c : ByteArray} {p : Nat} (h : dq0 c p 26 = true) : decode c p = .ok (.iload_n 0, 1) := dq_0 (o := 26) (fun _ => rfl) h
theorem dr_27 {c : ByteArray} {p : Nat} (h : dq0 c p 27 = true) : decode c p = .ok (.iload_n 1, 1) := dq_0 (o := 27) (fun _ => rfl) h
theorem dr_28 {c : ByteArray} {p : Nat} (h : dq0 c p 28 = true) : decode c p = .ok (.iload_n 2, 1) := dq_0 (o := 28) (fun _ => rfl) h
theorem dr_29 {c : ByteArray} {p : Nat} (h : dq0 c p 29 = true) : decode c p = .ok (.iload_n 3, 1) := dq_0 (o := 29) (fun _ => rfl) h
theorem dr_30 {c : ByteArray} {p : Nat} (h : dq0 c p 30 = true) : decode c p = .ok (.lload_n 0, 1) := dq_0 (o := 30) (fun _ => rfl) h
theorem dr_31 {c : ByteArray} {p : Nat} (h : dq0 c p 31 = true) : decode c p = .ok (.lload_n 1, 1) := dq_0 (o := 31) (fun _ => rfl) h
theorem dr_32 {c : ByteArray} {p : Nat} (h : dq0 c p 32 = true) : decode c p = .ok (.lload_n 2, 1) := dq_0 (o := 32) (fun _ => rfl) h
theorem dr_33 {c : ByteArray} {p : Nat} (h : dq0 c p 33 = true) : decode c p = .ok (.lload_n 3, 1) := dq_0 (o := 33) (fun _ => rfl) h
theorem dr_42 {c : ByteArray} {p : Nat} (h : dq0 c p 42 = true) : decode c p = .ok (.aload_n 0, 1) := dq_0 (o := 42) (fun _ => rfl) h
theorem dr_43 {c : ByteArray} {p : Nat} (h : dq0 c p 43 = true) : decode c p = .ok (.aload_n 1, 1) := dq_0 (o := 43) (fun _ => rfl) h
theorem dr_44 {c : ByteArray} {p : Nat} (h : dq0 c p 44 = true) : decode c p = .ok (.aload_n 2, 1) := dq_0 (o := 44) (fun _ => rfl) h
theorem dr_45 {c : ByteArray} {p : Nat} (h : dq0 c p 45 = true) : decode c p = .ok (.aload_n 3, 1) := dq_0 (o := 45) (fun _ => rfl) h
theorem dr_46 {c : ByteArray} {p : Nat} (h : dq0 c p 46 = true) : decode c p = .ok (.iaload, 1) := dq_0 (o := 46) (fun _ => rfl) h
theorem dr_47 {c : ByteArray} {p : Nat} (h : dq0 c p 47 = true) : decode c p = .ok (.laload, 1) := dq_0 (o := 47) (fun _ => rfl) h
theorem dr_50 {c : ByteArray} {p : Nat} (h : dq0 c p 50 = true) : decode c p = .ok (.aaload, 1) := dq_0 (o := 50) (fun _ => rfl) h
theorem dr_51 {c : ByteArray} {p : Nat} (h : dq0 c p 51 = true) : decode c p = .ok (.baload, 1) := dq_0 (o := 51) (fun _ => rfl) h
theorem dr_52 {c : ByteArray} {p : Nat} (h : dq0 c p 52 = true) : decode c p = .ok (.caload, 1) := dq_0 (o := 52) (fun _ => rfl) h
theorem dr_54 {c : ByteArray} {p i : Nat} (h : dq1 c p 54 i = true) : decode c p = .ok (.istore i, 2) := dq_1 (o := 54) (C := fun n => .istore n) (fun _ => rfl) h
theorem dr_55 {c : ByteArray} {p i : Nat} (h : dq1 c p 55 i = true) : decode c p = .ok (.lstore i, 2) := dq_1 (o := 55) (C := fun n => .lstore n) (fun _ => rfl) h
theorem dr_58 {c : ByteArray} {p i : Nat} (h : dq1 c p 58 i = true) : decode c p = .ok (.astore i, 2) := dq_1 (o := 58) (C := fun n => .astore n) (fun _ => rfl) h
theorem dr_59 {c : ByteArray} {p : Nat} (h : dq0 c p 59 = true) : decode c p = .ok (.istore_n 0, 1) := dq_0 (o := 59) (fun _ => rfl) h
theorem dr_60 {c : ByteArray} {p : Nat} (h : dq0 c p 60 = true) : decode c p = .ok (.istore_n 1, 1) := dq_0 (o := 60) (fun _ => rfl) h
theorem dr_61 {c : ByteArray} {p : Nat} (h : dq0 c p 61 = true) : decode c p = .ok (.istore_n 2, 1) := dq_0 (o := 61) (fun _ => rfl) h
theorem dr_62 {c : ByteArray} {p : Nat} (h : dq0 c p 62 = true) : decode c p = .ok (.istore_n 3, 1) := dq_0 (o := 62) (fun _ => rfl) h
theorem dr_64 {c : ByteArray} {p : Nat} (h : dq0 c p 64 = true) : decode c p = .ok (.lstore_n 1, 1) := dq_0 (o := 64) (fun _ => rfl) h
theorem dr_65 {c : ByteArray} {p : Nat} (h : dq0 c p 65 = true) : decode c p = .ok (.lstore_n 2, 1) := dq_0 (o := 65) (fun _ => rfl) h
theorem dr_66 {c : ByteArray} {p : Nat} (h : dq0 c p 66 = true) : decode c p = .ok (.lstore_n 3, 1) := dq_0 (o := 66) (fun _ => rfl) h
theorem dr_76 {c : ByteArray} {p : Nat} (h : dq0 c p 76 = true) : decode c p = .ok (.astore_n 1, 1) := dq_0 (o := 76) (fun _ => rfl) h
theorem dr_77 {c : ByteArray} {p : Nat} (h : dq0 c p 77 = true) : decode c p = .ok (.astore_n 2, 1) := dq_0 (o := 77) (fun _ => rfl) h
theorem dr_78 {c : ByteArray} {p : Nat} (h : dq0 c p 78 = true) : decode c p = .ok (.astore_n 3, 1) := dq_0 (o := 78) (fun _ => rfl) h
theorem dr_79 {c : ByteArray} {p : Nat} (h : dq0 c p 79 = true) : decode c p = .ok (.iastore, 1) := dq_0 (o := 79) (fun _ => rfl) h
theorem dr_80 {c : ByteArray} {p : Nat} (h : dq0 c p 80 = true) : decode c p = .ok (.lastore, 1) := dq_0 (o := 80) (fun _ => rfl) h
theorem dr_83 {c : ByteArray} {p : Nat} (h : dq0 c p 83 = true) : decode c p = .ok (.aastore, 1) := dq_0 (o := 83) (fun _ => rfl) h
theorem dr_84 {c : ByteArray} {p : Nat} (h : dq0 c p 84 = true) : decode c p = .ok (.bastore, 1) := dq_0 (o := 84) (fun _ => rfl) h
theorem dr_85 {c : ByteArray} {p : Nat} (h : dq0 c p 85 = true) : decode c p = .ok (.castore, 1) := dq_0 (o := 85) (fun _ => rfl) h
theorem dr_87 {c : ByteArray} {p : Nat} (h : dq0 c p 87 = true) : decode c p = .ok (.pop, 1) := dq_0 (o := 87) (fun _ => rfl) h
theorem dr_89 {c : ByteArray} {p : Nat} (h : dq0 c p 89 = true) : decode c p = .ok (.dup, 1) := dq_0 (o := 89) (fun _ => rfl) h
theorem dr_90 {c : ByteArray} {p : Nat} (h : dq0 c p 90 = true) : decode c p = .ok (.dup_x1, 1) := dq_0 (o := 90) (fun _ => rfl) h
theorem dr_92 {c : ByteArray} {p : Nat} (h : dq0 c p 92 = true) : decode c p = .ok (.dup2, 1) := dq_0 (o := 92) (fun _ => rfl) h
theorem dr_96 {c : ByteArray} {p : Nat} (h : dq0 c p 96 = true) : decode c p = .ok (.iadd, 1) := dq_0 (o := 96) (fun _ => rfl) h
theorem dr_97 {c : ByteArray} {p : Nat} (h : dq0 c p 97 = true) : decode c p = .ok (.ladd, 1) := dq_0 (o := 97) (fun _ => rfl) h
theorem dr_100 {c : ByteArray} {p : Nat} (h : dq0 c p 100 = true) : decode c p = .ok (.isub, 1) := dq_0 (o := 100) (fun _ => rfl) h
theorem dr_101 {c : ByteArray} {p : Nat} (h : dq0 c p 101 = true) : decode c p = .ok (.lsub, 1) := dq_0 (o := 101) (fun _ => rfl) h
theorem dr_104 {c : ByteArray} {p : Nat} (h : dq0 c p 104 = true) : decode c p = .ok (.imul, 1) := dq_0 (o := 104) (fun _ => rfl) h
theorem dr_105 {c : ByteArray} {p : Nat} (h : dq0 c p 105 = true) : decode c p = .ok (.lmul, 1) := dq_0 (o := 105) (fun _ => rfl) h
theorem dr_108 {c : ByteArray} {p : Nat} (h : dq0 c p 108 = true) : decode c p = .ok (.idiv, 1) := dq_0 (o := 108) (fun _ => rfl) h
theorem dr_109 {c : ByteArray} {p : Nat} (h : dq0 c p 109 = true) : decode c p = .ok (.ldiv, 1) := dq_0 (o := 109) (fun _ => rfl) h
theorem dr_112 {c : ByteArray} {p : Nat} (h : dq0 c p 112 = true) : decode c p = .ok (.irem, 1) := dq_0 (o := 112) (fun _ => rfl) h
theorem dr_113 {c : ByteArray} {p : Nat} (h : dq0 c p 113 = true) : decode c p = .ok (.lrem, 1) := dq_0 (o := 113) (fun _ => rfl) h
theorem dr_116 {c : ByteArray} {p : Nat} (h : dq0 c p 116 = true) : decode c p = .ok (.ineg, 1) := dq_0 (o := 116) (fun _ => rfl) h
theorem dr_120 {c : ByteArray} {p : Nat} (h : dq0 c p 120 = true) : decode c p = .ok (.ishl, 1) := dq_0 (o := 120) (fun _ => rfl) h
theorem dr_121 {c : ByteArray} {p : Nat} (h : dq0 c p 121 = true) : decode c p = .ok (.lshl, 1) := dq_0 (o := 121) (fun _ => rfl) h
theorem dr_122 {c : ByteArray} {p : Nat} (h : dq0 c p 122 = true) : decode c p = .ok (.ishr, 1) := dq_0 (o := 122) (fun _ => rfl) h
theorem dr_123 {c : ByteArray} {p : Nat} (h : dq0 c p 123 = true) : decode c p = .ok (.lshr, 1) := dq_0 (o := 123) (fun _ => rfl) h
theorem dr_124 {c : ByteArray} {p : Nat} (h : dq0 c p 124 = true) : decode c p = .ok (.iushr, 1) := dq_0 (o := 124) (fun _ => rfl) h
theorem dr_125 {c : ByteArray} {p : Nat} (h : dq0 c p 125 = true) : decode c p = .ok (.lushr, 1) := dq_0 (o := 125) (fun _ => rfl) h
theorem dr_126 {c : ByteArray} {p : Nat} (h : dq0 c p 126 = true) : decode c p = .ok (.iand, 1) := dq_0 (o := 126) (fun _ => rfl) h
theorem dr_127 {c : ByteArray} {p : Nat} (h : dq0 c p 127 = true) : decode c p = .ok (.land, 1) := dq_0 (o := 127) (fun _ => rfl) h
theorem dr_128 {c : ByteArray} {p : Nat} (h : dq0 c p 128 = true) : decode c p = .ok (.ior, 1) := dq_0 (o := 128) (fun _ => rfl) h
theorem dr_129 {c : ByteArray} {p : Nat} (h : dq0 c p 129 = true) : decode c p = .ok (.lor, 1) := dq_0 (o := 129) (fun _ => rfl) h
theorem dr_130 {c : ByteArray} {p : Nat} (h : dq0 c p 130 = true) : decode c p = .ok (.ixor, 1) := dq_0 (o := 130) (fun _ => rfl) h
theorem dr_131 {c : ByteArray} {p : Nat} (h : dq0 c p 131 = true) : decode c p = .ok (.lxor, 1) := dq_0 (o := 131) (fun _ => rfl) h
theorem dr_132 {c : ByteArray} {p n : Nat} {i : Int} (h : dq5 c p 132 n i = true) : decode c p = .ok (.iinc n i, 3) := dq_5 (o := 132) (C := fun n i => .iinc n i) (fun _ => rfl) h
theorem dr_133 {c : ByteArray} {p : Nat} (h : dq0 c p 133 = true) : decode c p = .ok (.i2l, 1) := dq_0 (o := 133) (fun _ => rfl) h
theorem dr_136 {c : ByteArray} {p : Nat} (h : dq0 c p 136 = true) : decode c p = .ok (.l2i, 1) := dq_0 (o := 136) (fun _ => rfl) h
theorem dr_145 {c : ByteArray} {p : Nat} (h : dq0 c p 145 = true) : decode c p = .ok (.i2b, 1) := dq_0 (o := 145) (fun _ => rfl) h
theorem dr_146 {c : ByteArray} {p : Nat} (h : dq0 c p 146 = true) : decode c p = .ok (.i2c, 1) := dq_0 (o := 146) (fun _ => rfl) h
theorem dr_147 {c : ByteArray} {p : Nat} (h : dq0 c p 147 = true) : decode c p = .ok (.i2s, 1) := dq_0 (o := 147) (fun _ => rfl) h
theorem dr_148 {c : ByteArray} {p : Nat} (h : dq0 c p 148 = true) : decode c p = .ok (.lcmp, 1) := dq_0 (o := 148) (fun _ => rfl) h
theorem dr_153 {c : ByteArray} {p : Nat} {i : Int} (h : dq4 c p 153 i = true) : decode c p = .ok (.ifCond .eq i, 3) := dq_4 (o := 153) (C := fun n => .ifCond .eq n) (fun _ => rfl) h
theorem dr_154 {c : ByteArray} {p : Nat} {i : Int} (h : dq4 c p 154 i = true) : decode c p = .ok (.ifCond .ne i, 3) := dq_4 (o := 154) (C := fun n => .ifCond .ne n) (fun _ => rfl) h
theorem dr_155 {c : ByteArray} {p : Nat} {i : Int} (h : dq4 c p 155 i = true) : decode c p = .ok (.ifCond .lt i, 3) := dq_4 (o := 155) (C := fun n => .ifCond .lt n) (fun _ => rfl) h
theorem dr_156 {c : ByteArray} {p : Nat} {i : Int} (h : dq4 c p 156 i = true) : decode c p = .ok (.ifCond .ge i, 3) := dq_4 (o := 156) (C := fun n => .ifCond .ge n) (fun _ => rfl) h
theorem dr_157 {c : ByteArray} {p : Nat} {i : Int} (h : dq4 c p 157 i = true) : decode c p = .ok (.ifCond .gt i, 3) := dq_4 (o := 157) (C := fun n => .ifCond .gt n) (fun _ => rfl) h
theorem dr_158 {c : ByteArray} {p : Nat} {i : Int} (h : dq4 c p 158 i = true) : decode c p = .ok (.ifCond .le i, 3) := dq_4 (o := 158) (C := fun n => .ifCond .le n) (fun _ => rfl) h
theorem dr_159 {c : ByteArray} {p : Nat} {i : Int} (h : dq4 c p 159 i = true) : decode c p = .ok (.if_icmp .eq i, 3) := dq_4 (o := 159) (C := fun n => .if_icmp .eq n) (fun _ => rfl) h
theorem dr_160 {c : ByteArray} {p : Nat} {i : Int} (h : dq4 c p 160 i = true) : decode c p = .ok (.if_icmp .ne i, 3) := dq_4 (o := 160) (C := fun n => .if_icmp .ne n) (fun _ => rfl) h
theorem dr_161 {c : ByteArray} {p : Nat} {i : Int} (h : dq4 c p 161 i = true) : decode c p = .ok (.if_icmp .lt i, 3) := dq_4 (o := 161) (C := fun n => .if_icmp .lt n) (fun _ => rfl) h
theorem dr_162 {c : ByteArray} {p : Nat} {i : Int} (h : dq4 c p 162 i = true) : decode c p = .ok (.if_icmp .ge i, 3) := dq_4 (o := 162) (C := fun n => .if_icmp .ge n) (fun _ => rfl) h
theorem dr_163 {c : ByteArray} {p : Nat} {i : Int} (h : dq4 c p 163 i = true) : decode c p = .ok (.if_icmp .gt i, 3) := dq_4 (o := 163) (C := fun n => .if_icmp .gt n) (fun _ => rfl) h
theorem dr_164 {c : ByteArray} {p : Nat} {i : Int} (h : dq4 c p 164 i = true) : decode c p = .ok (.if_icmp .le i, 3) := dq_4 (o := 164) (C := fun n => .if_icmp .le n) (fun _ => rfl) h
theorem dr_167 {c : ByteArray} {p : Nat} {i : Int} (h : dq4 c p 167 i = true) : decode c p = .ok (.goto i, 3) := dq_4 (o := 167) (C := fun n => .goto n) (fun _ => rfl) h
theorem dr_172 {c : ByteArray} {p : Nat} (h : dq0 c p 172 = true) : decode c p = .ok (.ireturn, 1) := dq_0 (o := 172) (fun _ => rfl) h
theorem dr_173 {c : ByteArray} {p : Nat} (h : dq0 c p 173 = true) : decode c p = .ok (.lreturn, 1) := dq_0 (o := 173) (fun _ => rfl) h
theorem dr_177 {c : ByteArray} {p : Nat} (h : dq0 c p 177 = true) : decode c p = .ok (.return_, 1) := dq_0 (o := 177) (fun _ => rfl) h
theorem dr_180 {c : ByteArray} {p i : Nat} (h : dq2 c p 180 i = true) : decode c p = .ok (.getfield i, 3) := dq_2 (o := 180) (C := fun n => .getfield n) (fun _ => rfl) h
theorem dr_181 {c : ByteArray} {p i : Nat} (h : dq2 c p 181 i = true) : decode c p = .ok (.putfield i, 3) := dq_2 (o := 181) (C := fun n => .putfield n) (fun _ => rfl) h
theorem dr_182 {c : ByteArray} {p i : Nat} (h : dq2 c p 182 i = true) : decode c p = .ok (.invokevirtual i, 3) := dq_2 (o := 182) (C := fun n => .invokevirtual n) (fun _ => rfl) h
theorem dr_183 {c : ByteArray} {p i : Nat} (h : dq2 c p 183 i = true) : decode c p = .ok (.invokespecial i, 3) := dq_2 (o := 183) (C := fun n => .invokespecial n) (fun _ => rfl) h
theorem dr_184 {c : ByteArray} {p i : Nat} (h : dq2 c p 184 i = true) : decode c p = .ok (.invokestatic i, 3) := dq_2 (o := 184) (C := fun n => .invokestatic n) (fun _ => rfl) h
theorem dr_187 {c : ByteArray} {p i : Nat} (h : dq2 c p 187 i = true) : decode c p = .ok (.new i, 3) := dq_2 (o := 187) (C := fun n => .new n) (fun _ => rfl) h
theorem dr_189 {c : ByteArray} {p i : Nat} (h : dq2 c p 189 i = true) : decode c p = .ok (.anewarray i, 3) := dq_2 (o := 189) (C := fun n => .anewarray n) (fun _ => rfl) h
theorem dr_190 {c : ByteArray} {p : Nat} (h : dq0 c p 190 = true) : decode c p = .ok (.arraylength, 1) := dq_0 (o := 190) (fun _ => rfl) h
theorem dr_191 {c : ByteArray} {p : Nat} (h : dq0 c p 191 = true) : decode c p = .ok (.athrow, 1) := dq_0 (o := 191) (fun _ => rfl) h
end DQ
