/-! THE 44 CALLS OF THIS LAW -/
section OPW
variable {ad : Nat → Nat} {d kq : Nat}
theorem o_sign : O_sign ad d (InvK (KX KG kq)) (InvK (KX KG (kq + 1))) := fun a => (os_sign (KX.kd kq KG.kd) a).w
theorem o_end : O_end ad d (InvK (KX KG kq)) (InvK (KX KG (kq + 1))) := fun a => (os_end (KX.kd kq KG.kd) a).w
theorem o_league (hc : kq < 1000) : O_league ad d (InvK (KX KG kq)) (InvK (KX KG (kq + 1))) := (og_league kq hc).w
theorem o_rule : O_rule ad d (InvK (KX KG kq)) (InvK (KX KG (kq + 1))) := (os_rule (KG.rr kq) (KG.rl kq)).w
theorem o_plan : O_plan ad d (InvK (KX KG kq)) (InvK (KX KG (kq + 1))) := (ob_plan (KG.trn rfl rfl) kq).w
theorem o_skill : O_skill ad d (InvK (KX KG kq)) (InvK (KX KG (kq + 1))) := fun a b => (og_skill kq a b).w
theorem o_law : O_law ad d (InvK (KX KG kq)) (InvK (KX KG (kq + 1))) := fun a b => (og_law kq a b).w
theorem o_sheet : O_sheet ad d (InvK (KX KG kq)) (InvK (KX KG (kq + 1))) := fun a b c e f => (og_sheet kq a b c e f).w
theorem o_ill : O_ill ad d (InvK (KX KG kq)) (InvK (KX KG (kq + 1))) := fun a b hb => (og_ill kq a b hb).w
theorem o_swap : O_swap ad d (InvK (KX KG kq)) (InvK (KX KG (kq + 1))) := fun a b => (og_swap kq a b).w
theorem o_circle : O_circle ad d (InvK (KX KG kq)) (InvK (KX KG (kq + 1))) := (ob_circle (KG.trn rfl rfl) kq).w
theorem o_game : O_game ad d (InvK (KX KG kq)) (InvK (KX KG (kq + 1))) := fun a b c => (og_game kq a b c).w
theorem o_odds : O_odds ad d (InvK (KX KG kq)) (InvK (KX KG (kq + 1))) := fun a b => (og_odds kq a b).w
theorem o_play : O_play ad d (InvK (KX KG kq)) (InvK (KX KG (kq + 1))) := fun a b c => (og_play kq a b c).w
theorem o_undo : O_undo ad d (InvK (KX KG kq)) (InvK (KX KG (kq + 1))) := og_undo kq
theorem o_judge : O_judge ad d (InvK (KX KG kq)) (InvK (KX KG (kq + 1))) := fun a b => (og_judge kq a b).w
theorem o_rounds : O_rounds ad d (InvK (KX KG kq)) (InvK (KX KG (kq + 1))) := fun a => (og_rounds kq a).w
theorem o_beats : O_beats ad d (InvK (KX KG kq)) (InvK (KX KG (kq + 1))) := fun a => (og_beats kq a).w
theorem o_kings : O_kings ad d (InvK (KX KG kq)) (InvK (KX KG (kq + 1))) := (og_kings kq).w
theorem o_master : O_master ad d (InvK (KX KG kq)) (InvK (KX KG (kq + 1))) := fun a => (og_master kq a).w
theorem o_table : O_table ad d (InvK (KX KG kq)) (InvK (KX KG (kq + 1))) := (os_table (KX.kd kq KG.kd)).w
theorem o_spread : O_spread ad d (InvK (KX KG kq)) (InvK (KX KG (kq + 1))) := (og_spread kq).w
theorem o_rest : O_rest ad d (InvK (KX KG kq)) (InvK (KX KG (kq + 1))) := og_rest kq
theorem o_mean : O_mean ad d (InvK (KX KG kq)) (InvK (KX KG (kq + 1))) := fun a b => og_mean kq a b
theorem o_soon : O_soon ad d (InvK (KX KG kq)) (InvK (KX KG (kq + 1))) := fun a b c => og_soon kq a b c
theorem o_wins : O_wins ad d (InvK (KX KG kq)) (InvK (KX KG (kq + 1))) := fun a b c => og_wins kq a b c
theorem o_hopes : O_hopes ad d (InvK (KX KG kq)) (InvK (KX KG (kq + 1))) := fun a => og_hopes kq a
theorem o_top : O_top ad d (InvK (KX KG kq)) (InvK (KX KG (kq + 1))) := fun a b c => og_top kq a b c
theorem o_quick : O_quick ad d (InvK (KX KG kq)) (InvK (KX KG (kq + 1))) := fun a => og_quick kq a
theorem o_best : O_best ad d (InvK (KX KG kq)) (InvK (KX KG (kq + 1))) := fun a b => og_best kq a b
theorem o_even : O_even ad d (InvK (KX KG kq)) (InvK (KX KG (kq + 1))) := fun a => og_even kq a
theorem o_all : O_all ad d (InvK (KX KG kq)) (InvK (KX KG (kq + 1))) := og_all kq
theorem o_next : O_next ad d (InvK (KX KG kq)) (InvK (KX KG (kq + 1))) := fun a => (og_next kq a).w
theorem o_seen : O_seen ad d (InvK (KX KG kq)) (InvK (KX KG (kq + 1))) := fun a b c => (os_seen (KX.kd kq KG.kd) a b c).w
theorem o_found : O_found ad d (InvK (KX KG kq)) (InvK (KX KG (kq + 1))) := ow_found (KX.kd kq KG.kd)
theorem o_prize : O_prize ad d (InvK (KX KG kq)) (InvK (KX KG (kq + 1))) := (og_prize kq).w
theorem o_pays : O_pays ad d (InvK (KX KG kq)) (InvK (KX KG (kq + 1))) := fun a b => (og_pays kq a b).w
theorem o_laws : O_laws ad d (InvK (KX KG kq)) (InvK (KX KG (kq + 1))) := fun a => (og_laws kq a).w
theorem o_seed : O_seed ad d (InvK (KX KG kq)) (InvK (KX KG (kq + 1))) := fun a => (og_seed kq a).w
theorem o_keep : O_keep ad d (InvK (KX KG kq)) (InvK (KX KG (kq + 1))) := fun a => (og_keep kq a).w
theorem o_again : O_again ad d (InvK (KX KG kq)) (InvK (KX KG (kq + 1))) := fun a => (og_again kq a).w
theorem o_count : O_count ad d (InvK (KX KG kq)) (InvK (KX KG (kq + 1))) := fun a => ow_count (KX.kd kq KG.kd) a
theorem o_of : O_of ad d (InvK (KX KG kq)) (InvK (KX KG (kq + 1))) := fun a b m I => by
  have hx : CtX ad μX11_of (d + 299) [.ref (ad 0), .int a, .int b] m (fun r m' => WT m' ∧ Fx (RS [14]) m m' ∧ ∃ v : Int32, r = some (.int v)) (fun m' => WT m' ∧ Fx (RS [14]) m m') := by
    refine v_X11_of (d := d + 293) ((s_X1_has I.1).to ?_)
    rintro _ m1 ⟨w1, f1, v, rfl, -, -, p1⟩
    have f1' : Fx (RS [14]) m m1 := (Fx.rf (S := RS [14])).tr f1 (RS_sub rfl)
    refine ⟨v, rfl, fun c => ?_, fun _ => ⟨w1, f1'⟩⟩
    have c' := z_ne c
    have z0 : (0 : Int32).toInt = 0 := rfl
    have V : vp_in a 8 := vpi (by omega) (by omega)
    refine ⟨fun _ => (s_X1_power w1 SS_21 (by omega) (by omega)).to ?_, fun _ => ⟨V, w1, f1', _, rfl⟩, fun _ => ⟨V, w1, f1', _, rfl⟩, fun _ => (s_X1_isIll w1).to ?_, fun _ => ⟨V, w1, f1', _, rfl⟩, fun _ _ _ _ _ => ⟨w1, f1'⟩⟩
    · rintro _ m2 ⟨w2, f2, v2, rfl⟩
      exact ⟨v2, rfl, w2, f1'.tr f2 (RS_sub rfl), _, rfl⟩
    · rintro _ m2 ⟨w2, f2, v2, rfl, -⟩
      exact ⟨v2, rfl, fun _ => ⟨w2, f1'.tr f2 (RS_sub rfl), _, rfl⟩, fun _ => ⟨w2, f1'.tr f2 (RS_sub rfl), _, rfl⟩⟩
  have fin : ∀ m1, WT m1 → Fx (RS [14, 51]) m m1 → Ct ad μX12_of (d + 300) [.ref (ad 187), .int a, .int b] m1 (fun r m3 => (∃ w : Int32, r = some (.int w)) ∧ InvK (KX KG (kq + 1)) m3) := by
    intro m1 w1 f1
    refine (s_X12_of w1).to ?_
    rintro _ m2 ⟨w2, f2, v2, rfl⟩
    exact ⟨⟨_, rfl⟩, w2, I.2.1.f2 f1 f2 rfl rfl, KX.kd kq KG.kd f1 f2 I.2.2 rfl rfl⟩
  refine ctg_of hx (fun r m1 h => ?_) (fun m1 h => ?_)
  · obtain ⟨w1, f1, v, rfl⟩ := h
    exact ⟨v, rfl, ⟨_, rfl⟩, fin _ w1.l (((Fx.rf (S := RS [14, 51])).tr f1 (RS_sub rfl)).l rfl)⟩
  · exact ⟨⟨_, rfl⟩, fin _ h.1 ((Fx.rf (S := RS [14, 51])).tr h.2 (RS_sub rfl))⟩
theorem o_row : O_row ad d (InvK (KX KG kq)) (InvK (KX KG (kq + 1))) := fun a m I => by
  have hx : CtX ad μX11_row (d + 299) [.ref (ad 0), .int a] m (fun r m' => m' = m ∧ ∃ v : Int64, r = some (.long v)) (fun m' => m' = m) := by
    have t := I.1.at (a := 0) (k := 18) rfl
    refine v_X11_row (d := d + 293) ⟨fun _ => rfl, fun c => ⟨fun c2 => ⟨?_, rfl, _, rfl⟩, fun _ => rfl⟩⟩
    have c' := y_nltr (n := 0) rfl c
    have c2' := z_lt c2
    exact vpi (by omega) (by omega)
  have fin : ∀ m1, WT m1 → Fx (RS [51]) m m1 → Ct ad μX12_row (d + 300) [.ref (ad 187), .int a] m1 (fun r m3 => (∃ w : Int64, r = some (.long w)) ∧ InvK (KX KG (kq + 1)) m3) := by
    intro m1 w1 f1
    refine (s_X12_row w1).to ?_
    rintro _ m2 ⟨w2, f2, v2, rfl⟩
    exact ⟨⟨_, rfl⟩, w2, I.2.1.f2 f1 f2 rfl rfl, KX.kd kq KG.kd f1 f2 I.2.2 rfl rfl⟩
  refine ctg_row hx (fun r m1 h => ?_) (fun m1 h => ?_)
  · obtain ⟨rfl, v, rfl⟩ := h
    exact ⟨v, rfl, ⟨_, rfl⟩, fin _ I.1.l ((Fx.rf (S := RS [51])).l rfl)⟩
  · subst h
    exact ⟨⟨_, rfl⟩, fin _ I.1 Fx.rf⟩
theorem all_ops (hc : kq < 1000) : OPS ad d (InvK (KX KG kq)) (InvK (KX KG (kq + 1))) := ⟨o_sign, o_end, o_league hc, o_rule, o_plan, o_skill, o_of, o_law, o_sheet, o_ill, o_swap, o_circle, o_game, o_odds, o_play, o_undo, o_judge, o_rounds, o_beats, o_kings, o_master, o_table, o_spread, o_rest, o_mean, o_soon, o_wins, o_hopes, o_top, o_quick, o_best, o_even, o_all, o_next, o_seen, o_found, o_prize, o_pays, o_laws, o_seed, o_keep, o_again, o_count, o_row, fun _ I => ⟨I.1, I.2.1, KX.kd kq KG.kd (Fx.rf (S := RS [])) (Fx.rf (S := RS [])) I.2.2 rfl rfl⟩⟩
end OPW
