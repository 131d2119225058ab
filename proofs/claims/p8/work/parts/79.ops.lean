/-! THE 44 CALLS OF THIS LAW -/
section OPW
variable {ad : Nat → Nat} {d kq : Nat}
theorem o_sign : O_sign ad d (InvK (KX KG kq)) (InvK (KX KG (kq + 1))) := fun a => (os_sign (KX.kd kq KG.kd) a).w
theorem o_end : O_end ad d (InvK (KX KG kq)) (InvK (KX KG (kq + 1))) := fun a => (os_end (KX.kd kq KG.kd) a).w
theorem o_league (hc : kq < 1000) : O_league ad d (InvK (KX KG kq)) (InvK (KX KG (kq + 1))) := (og_league kq hc).w
theorem o_rule : O_rule ad d (InvK (KX KG kq)) (InvK (KX KG (kq + 1))) := (os_rule (KG.rr kq) (KG.rl kq)).w
theorem o_plan : O_plan ad d (InvK (KX KG kq)) (InvK (KX KG (kq + 1))) := (ob_plan (KG.trn rfl rfl) kq).w
theorem o_skill : O_skill ad d (InvK (KX KG kq)) (InvK (KX KG (kq + 1))) := fun a b => (og_skill kq a b).w
theorem o_law : O_law ad d (InvK (KX KG kq)) (InvK (KX KG (kq + 1))) := fun a b => (og_law kq a b).w
theorem o_sheet : O_sheet ad d (InvK (KX KG kq)) (InvK (KX KG (kq + 1))) := fun a b c e f => (og_sheet kq a b c e f).w
theorem o_ill : O_ill ad d (InvK (KX KG kq)) (InvK (KX KG (kq + 1))) := fun a b hb => (og_ill kq a b hb).w
theorem o_swap : O_swap ad d (InvK (KX KG kq)) (InvK (KX KG (kq + 1))) := fun a b => (og_swap kq a b).w
theorem o_circle : O_circle ad d (InvK (KX KG kq)) (InvK (KX KG (kq + 1))) := (ob_circle (KG.trn rfl rfl) kq).w
theorem o_game : O_game ad d (InvK (KX KG kq)) (InvK (KX KG (kq + 1))) := fun a b c => (og_game kq a b c).w
theorem o_odds : O_odds ad d (InvK (KX KG kq)) (InvK (KX KG (kq + 1))) := fun a b => (og_odds kq a b).w
theorem o_play : O_play ad d (InvK (KX KG kq)) (InvK (KX KG (kq + 1))) := fun a b c => (og_play kq a b c).w
theorem o_undo : O_undo ad d (InvK (KX KG kq)) (InvK (KX KG (kq + 1))) := (og_undo kq).w
theorem o_judge : O_judge ad d (InvK (KX KG kq)) (InvK (KX KG (kq + 1))) := fun a b => (og_judge kq a b).w
theorem o_rounds : O_rounds ad d (InvK (KX KG kq)) (InvK (KX KG (kq + 1))) := fun a => (og_rounds kq a).w
theorem o_beats : O_beats ad d (InvK (KX KG kq)) (InvK (KX KG (kq + 1))) := fun a => (og_beats kq a).w
theorem o_kings : O_kings ad d (InvK (KX KG kq)) (InvK (KX KG (kq + 1))) := (og_kings kq).w
theorem o_master : O_master ad d (InvK (KX KG kq)) (InvK (KX KG (kq + 1))) := fun a => (og_master kq a).w
theorem o_table : O_table ad d (InvK (KX KG kq)) (InvK (KX KG (kq + 1))) := (os_table (KX.kd kq KG.kd)).w
theorem o_spread : O_spread ad d (InvK (KX KG kq)) (InvK (KX KG (kq + 1))) := (og_spread kq).w
theorem o_rest : O_rest ad d (InvK (KX KG kq)) (InvK (KX KG (kq + 1))) := og_rest kq
theorem o_mean : O_mean ad d (InvK (KX KG kq)) (InvK (KX KG (kq + 1))) := fun a b => og_mean kq a b
theorem o_soon : O_soon ad d (InvK (KX KG kq)) (InvK (KX KG (kq + 1))) := fun a b c => og_soon kq a b c
theorem o_wins : O_wins ad d (InvK (KX KG kq)) (InvK (KX KG (kq + 1))) := fun a b c => og_wins kq a b c
theorem o_hopes : O_hopes ad d (InvK (KX KG kq)) (InvK (KX KG (kq + 1))) := fun a => og_hopes kq a
theorem o_top : O_top ad d (InvK (KX KG kq)) (InvK (KX KG (kq + 1))) := fun a b c => og_top kq a b c
theorem o_quick : O_quick ad d (InvK (KX KG kq)) (InvK (KX KG (kq + 1))) := fun a => og_quick kq a
theorem o_best : O_best ad d (InvK (KX KG kq)) (InvK (KX KG (kq + 1))) := fun a b => og_best kq a b
theorem o_even : O_even ad d (InvK (KX KG kq)) (InvK (KX KG (kq + 1))) := fun a => og_even kq a
theorem o_all : O_all ad d (InvK (KX KG kq)) (InvK (KX KG (kq + 1))) := og_all kq
theorem o_next : O_next ad d (InvK (KX KG kq)) (InvK (KX KG (kq + 1))) := fun a => (og_next kq a).w
theorem o_seen : O_seen ad d (InvK (KX KG kq)) (InvK (KX KG (kq + 1))) := fun a b c => (os_seen (KX.kd kq KG.kd) a b c).w
theorem o_found : O_found ad d (InvK (KX KG kq)) (InvK (KX KG (kq + 1))) := ow_found (KX.kd kq KG.kd)
theorem o_prize : O_prize ad d (InvK (KX KG kq)) (InvK (KX KG (kq + 1))) := (og_prize kq).w
theorem o_pays : O_pays ad d (InvK (KX KG kq)) (InvK (KX KG (kq + 1))) := fun a b => (og_pays kq a b).w
theorem o_laws : O_laws ad d (InvK (KX KG kq)) (InvK (KX KG (kq + 1))) := fun a => (og_laws kq a).w
theorem o_seed : O_seed ad d (InvK (KX KG kq)) (InvK (KX KG (kq + 1))) := fun a => (og_seed kq a).w
theorem o_keep : O_keep ad d (InvK (KX KG kq)) (InvK (KX KG (kq + 1))) := fun a => (og_keep kq a).w
theorem o_again : O_again ad d (InvK (KX KG kq)) (InvK (KX KG (kq + 1))) := fun a => (og_again kq a).w
theorem o_count : O_count ad d (InvK (KX KG kq)) (InvK (KX KG (kq + 1))) := fun a => ow_count (KX.kd kq KG.kd) a
section OFC
variable {ad : Nat → Nat} {d : Nat} {m : Wm} {g : GS} {v : EV} {x y : Int32}
theorem e_ofC (w : WT m) (hc : HC 21 m g) (ec : EC m v) : CtX ad μX11_of (d + 299) [.ref (ad 0), .int x, .int y] m (fun r m' => WT m' ∧ Fx (RS [14]) m m' ∧ ∃ z : Int32, ofA v g x y = some z ∧ r = some (.int z)) (fun m' => WT m' ∧ Fx (RS [14]) m m' ∧ ofA v g x y = none) := by
  have n8 := ec.2.2.1
  refine v_X11_of (d := d + 293) ((hasC ec.1 n8).to ?_)
  rintro _ m1 ⟨eq, v1, rfl, y1, y2⟩
  obtain rfl := eq.symm
  refine ⟨v1, rfl, fun c => ?_, fun c => ⟨w, Fx.rf, ofA_no (y1 c)⟩⟩
  have hI := y2 c
  obtain ⟨s, hs, rfl⟩ := hI.of
  have e := ofA_in (g := g) (y := y) hI (by omega)
  have V : vp_in (nI s) 8 := nat_in (by omega) (by decide)
  have k10 : (1 : Int32) ≠ 0 := by decide
  have k20 : (2 : Int32) ≠ 0 := by decide
  have k21 : (2 : Int32) ≠ 1 := by decide
  have k30 : (3 : Int32) ≠ 0 := by decide
  have k31 : (3 : Int32) ≠ 1 := by decide
  have k32 : (3 : Int32) ≠ 2 := by decide
  have k40 : (4 : Int32) ≠ 0 := by decide
  have k41 : (4 : Int32) ≠ 1 := by decide
  have k42 : (4 : Int32) ≠ 2 := by decide
  have k43 : (4 : Int32) ≠ 3 := by decide
  refine ⟨fun q => (powC (d := d + 294) w hc ec (by omega)).to ?_, fun q => ⟨V, w, Fx.rf, _, ?_, rfl⟩, fun q => ⟨V, w, Fx.rf, _, ?_, rfl⟩, fun q => (isIllC ec.2.2.2.2.2.1.1 (by omega)).to ?_, fun q => ⟨V, w, Fx.rf, _, ?_, rfl⟩, fun q0 q1 q2 q3 q4 => ⟨w, Fx.rf, ?_⟩⟩
  · rintro _ m2 ⟨w2, f2, rfl⟩
    exact ⟨_, rfl, w2, f2, _, by rw [e, if_pos q], rfl⟩
  · subst q
    rw [e, if_neg k10, if_pos rfl, nI_clamp (by omega), hc.2.1 s (by omega)]
  · subst q
    rw [e, if_neg k20, if_neg k21, if_pos rfl, nI_clamp (by omega), hc.2.2.1 s (by omega)]
  · rintro _ m2 ⟨eq, rfl⟩
    obtain rfl := eq.symm
    subst q
    rw [e, if_neg k30, if_neg k31, if_neg k32, if_pos rfl]
    cases iE v s with
    | true => exact ⟨_, rfl, fun z => absurd z (by decide), fun _ => ⟨w, Fx.rf, 1, rfl, rfl⟩⟩
    | false => exact ⟨_, rfl, fun _ => ⟨w, Fx.rf, 0, rfl, rfl⟩, fun z => absurd rfl z⟩
  · subst q
    rw [e, if_neg k40, if_neg k41, if_neg k42, if_neg k43, if_pos rfl, nI_clamp (by omega), hc.2.2.2.1 s (by omega)]
  · rw [e, if_neg q0, if_neg q1, if_neg q2, if_neg q3, if_neg q4]
end OFC
theorem ul_eq {m : Wm} {a k : Nat} {x : Int64} : (uL m a k x).2.1 a k = x := if_pos ⟨rfl, rfl⟩
theorem o_of : O_of ad d (InvK (KX KG kq)) (InvK (KX KG (kq + 1))) := fun a b m I => by
  obtain ⟨w, I1, ⟨g, v, H, kd⟩, kb⟩ := I
  refine ctg_of (e_ofC (d := d) w kd.1 kd.2.2.1) (fun r m1 h => ?_) (fun m1 h => ?_)
  · obtain ⟨w1, f1, z, e, rfl⟩ := h
    exact ⟨z, rfl, 0, rfl, og_of I1 kd kb w1.l (((Fx.rf (S := RS [14, 51])).tr f1 (RS_sub rfl)).l rfl) (Or.inl ⟨z, e, rfl, ul_eq⟩)⟩
  · obtain ⟨w1, f1, e⟩ := h
    exact ⟨1, rfl, og_of I1 kd kb w1 ((Fx.rf (S := RS [14, 51])).tr f1 (RS_sub rfl)) (Or.inr ⟨e, rfl⟩)⟩
theorem o_row : O_row ad d (InvK (KX KG kq)) (InvK (KX KG (kq + 1))) := fun a m I => by
  have hx : CtX ad μX11_row (d + 299) [.ref (ad 0), .int a] m (fun r m' => m' = m ∧ ∃ v : Int64, r = some (.long v)) (fun m' => m' = m) := by
    have t := I.1.at (a := 0) (k := 18) rfl
    refine v_X11_row (d := d + 293) ⟨fun _ => rfl, fun c => ⟨fun c2 => ⟨?_, rfl, _, rfl⟩, fun _ => rfl⟩⟩
    have c' := y_nltr (n := 0) rfl c
    have c2' := z_lt c2
    exact vpi (by omega) (by omega)
  have fin : ∀ m1, WT m1 → Fx (RS [51]) m m1 → Ct ad μX12_row (d + 300) [.ref (ad 187), .int a] m1 (fun r m3 => (∃ w : Int64, r = some (.long w)) ∧ InvK (KX KG (kq + 1)) m3) := by
    intro m1 w1 f1
    refine (s_X12_row w1).to ?_
    rintro _ m2 ⟨w2, f2, v2, rfl⟩
    exact ⟨⟨_, rfl⟩, w2, I.2.1.f2 f1 f2 rfl rfl, KX.kd kq KG.kd f1 f2 I.2.2 rfl rfl⟩
  refine ctg_row hx (fun r m1 h => ?_) (fun m1 h => ?_)
  · obtain ⟨rfl, v, rfl⟩ := h
    exact ⟨v, rfl, ⟨_, rfl⟩, fin _ I.1.l ((Fx.rf (S := RS [51])).l rfl)⟩
  · subst h
    exact ⟨⟨_, rfl⟩, fin _ I.1 Fx.rf⟩
theorem all_ops (hc : kq < 1000) : OPS ad d (InvK (KX KG kq)) (InvK (KX KG (kq + 1))) := ⟨o_sign, o_end, o_league hc, o_rule, o_plan, o_skill, o_of, o_law, o_sheet, o_ill, o_swap, o_circle, o_game, o_odds, o_play, o_undo, o_judge, o_rounds, o_beats, o_kings, o_master, o_table, o_spread, o_rest, o_mean, o_soon, o_wins, o_hopes, o_top, o_quick, o_best, o_even, o_all, o_next, o_seen, o_found, o_prize, o_pays, o_laws, o_seed, o_keep, o_again, o_count, o_row, fun _ I => ⟨I.1, I.2.1, KX.kd kq KG.kd (Fx.rf (S := RS [])) (Fx.rf (S := RS [])) I.2.2 rfl rfl⟩⟩
end OPW
