/-! ===== ReplayHouse.text, its walk ===== -/
theorem z_wlk5 : ∃ k0 : Nat, zWI[k0]? = some (0, 0, 5) := ⟨5, rfl⟩
set_option maxHeartbeats 8000000 in
set_option maxRecDepth 100000 in
theorem zt_X4_text (l : Launch) (hl : l.stackTraces = false) (D : va_G) (ca : Nat → ClassId) (ad : zAD) (A : Nat → Prop) (g : zSG) (x1 x2 x3 : Int32) (r : zRR) (hF : zX_text [.inr (.inl (0, 0, 0)), .inl x1, .inl x2, .inl x3] g = some r) : vx_Met l yX4_text (.code yX4_text cX4_text 5 (some .int) :: zWS) (zrm 75 5 420) (zPc D ca ad A g [.inr (.inl (0, 0, 0)), .inl x1, .inl x2, .inl x3]) (zQu D ca ad A g r) (zX D ca ad A g r) 5 420 A := by
  refine vx_ofW (by decide +kernel) rfl ?_
  intro p e s m args below meth c s₁ B hml hex hv
  obtain ⟨rfl, hK, hP, hA, hE⟩ := hv
  have hx := B.exec
  have hb := B.bytes
  have hr := B.returns
  have hts : ∀ w ∈ zWS, w.before _ s = true := fun w hw => atoms_spec (ws := .code yX4_text cX4_text 5 (some .int) :: zWS) B.pre w (List.mem_cons_of_mem _ hw)
  have hown : s.vm.findClass RX4 = some m.cls := findClass_of_methodNamed B.named
  have hlocks := B.notSynchronized
  have hS : va_S A s.heap s.heap [] := va_S.rf
  have hL := zt_LI hE hS hP.1 hP.2 rfl
  have hE0 : zE0 ad A s s.heap := hE.2.2
  have hl0 := lv_entry ([.ref (ad 0 0 0), .int x1, .int x2, .int x3]) (n := 5) (Nat.le_of_ble_eq_true rfl)
  rw [lg_entry_eq]
  show W p l e _ s m _ below meth c s.heap [] 0 0 _ (F0 m 0 (lg_sl ([.ref (ad 0 0 0), .int x1, .int x2, .int x3]) ++ List.replicate (5 - (lg_sl ([.ref (ad 0 0 0), .int x1, .int x2, .int x3])).length) Slot.unset).toArray [])
  generalize (lg_sl ([.ref (ad 0 0 0), .int x1, .int x2, .int x3]) ++ List.replicate (5 - (lg_sl ([.ref (ad 0 0 0), .int x1, .int x2, .int x3])).length) Slot.unset).toArray = ls at hl0 ⊢
  have hls : lv_has ls 5 [(0, .ref (ad 0 0 0)), (1, .int x1), (2, .int x2), (3, .int x3)] := hl0
  generalize (List.map (z_tV ad) [.inr (.inl (0, 0, 0)), .inl x1, .inl x2, .inl x3]).toArray = av at hts ⊢
  have hw := zx_w
  obtain ⟨wV, wK, wU, wP, wF⟩ := hw
  have hw2 := zx_w2
  simp only [Bool.and_eq_true, decide_eq_true_eq] at hw2
  obtain ⟨⟨⟨⟨⟨⟨⟨⟨⟨⟨⟨⟨⟨⟨c1, c2⟩, c3⟩, c4⟩, c5⟩, c6⟩, c7⟩, c8⟩, c9⟩, c10⟩, c11⟩, c12⟩, c13⟩, c14⟩, c15⟩ := hw2
  have hcl : ∀ n, n ≤ 5 → n ≤ (headSpec (.code yX4_text cX4_text 5 (some .int) :: zWS) (zrm 75 5 420)).room.cells := fun n h => h
  have hsl : ∀ n, n ≤ 420 → n ≤ (headSpec (.code yX4_text cX4_text 5 (some .int) :: zWS) (zrm 75 5 420)).room.slots := fun n h => h
  have hout : ∀ (H1 : Heap) (locs1 : List Loc) (q : Addr) (ce : Cell) (x : Nat) (g1 : zSG) (cl sl pc1 : Nat) (st1 : List Value), r = (.inr x, g1) → g1 5 = g 5 → zLI D ca ad A g1 H1 → va_S A s.heap H1 locs1 → H1[q]? = some ce → ce.vm = .none → s.vm.findClass (zEx x) = some ce.cls → cl ≤ 5 → sl ≤ 420 → vx_W p l e (headSpec (.code yX4_text cX4_text 5 (some .int) :: zWS) (zrm 75 5 420)).room s m av below meth c H1 locs1 cl sl (vx_MQ below (zQu D ca ad A g r) (zX D ca ad A g r) av s 5 420 A) (F0 m pc1 ls st1) q := by
    intro H1 locs1 q ce x g1 cl sl pc1 st1 er h5 hL1 hS1 h1 h2 h3 h4 h6
    subst er
    exact vx_out (fun x hx => absurd (hex x hx) id) hlocks h1 h2 h3 (fun t ht hal => ⟨⟨x, rfl, rfl, by rw [ht]; exact hL1.1, h5⟩, hS1.F ht⟩) hS1.2.2 h4 h6
  rw [zX_text_eq] at hF
  refine lv_iload_n hx hb (by decide +kernel : decode cX4_text 0 = .ok (.iload_n 1, 1)) rfl (lv_at hls 1 rfl) ?_
  rcases q_ix x1 (n := 2) (by decide) with ⟨v, hv, rfl⟩ | hb1
  case inr =>
    rw [q_ckV_bad hb1, q_bVx] at hF
    have er := (Option.some.inj hF).symm
    refine zl_run (zl_rS (n := 1) (vs := [.inl x1]) (rest := []) (zt_X4_checkVersion l hl) wV c1 (by decide +kernel) ⟨Nat.le_of_ble_eq_true rfl, Nat.le_of_ble_eq_true rfl⟩ ⟨hx, hb, hml, hown, hts⟩ hK hE0 hA hS hL (q_ckV_bad hb1) rfl rfl (Nat.le_of_ble_eq_true rfl) hls.1 (by decide +kernel : decode cX4_text 1 = .ok (.invokestatic 67, 3)) ⟨hcl _ (by decide), hsl _ (by decide)⟩) hA hS hL (fun v h => nomatch h) (fun k hk h5 H1 locs1 q ce hL1 hS1 _ h1 h2 h3 => ?_)
    cases hk
    exact hout H1 locs1 q ce 0 g _ _ _ _ er h5 hL1 hS1 h1 h2 h3 (Nat.le_of_ble_eq_true rfl) (Nat.le_of_ble_eq_true rfl)
  rw [q_ckV_ok hv, q_bV] at hF
  refine zl_run (zl_rS (n := 1) (vs := [.inl (nI v)]) (rest := []) (zt_X4_checkVersion l hl) wV c1 (by decide +kernel) ⟨Nat.le_of_ble_eq_true rfl, Nat.le_of_ble_eq_true rfl⟩ ⟨hx, hb, hml, hown, hts⟩ hK hE0 hA hS hL (q_ckV_ok hv) rfl rfl (Nat.le_of_ble_eq_true rfl) hls.1 (by decide +kernel : decode cX4_text 1 = .ok (.invokestatic 67, 3)) ⟨hcl _ (by decide), hsl _ (by decide)⟩) hA hS hL (fun vv hvv _ H1 locs1 hL1 hS1 _ => ?_) (fun k hk => nomatch hk)
  cases hvv
  refine lv_iload_n hx hb (by decide +kernel : decode cX4_text 4 = .ok (.iload_n 2, 1)) rfl (lv_at hls 2 rfl) ?_
  rcases q_ix x2 (n := 4) (by decide) with ⟨kd, hkd, rfl⟩ | hb2
  case inr =>
    rw [q_ckK_bad hb2, q_bVx] at hF
    have er := (Option.some.inj hF).symm
    refine zl_run (zl_rS (n := 1) (vs := [.inl x2]) (rest := []) (zt_X4_checkKind l hl) wK c2 (by decide +kernel) ⟨Nat.le_of_ble_eq_true rfl, Nat.le_of_ble_eq_true rfl⟩ ⟨hx, hb, hml, hown, hts⟩ hK hE0 hA hS1 hL1 (q_ckK_bad hb2) rfl rfl (Nat.le_of_ble_eq_true rfl) hls.1 (by decide +kernel : decode cX4_text 5 = .ok (.invokestatic 70, 3)) ⟨hcl _ (by decide), hsl _ (by decide)⟩) hA hS1 hL1 (fun v h => nomatch h) (fun k hk h5 H2 locs2 q ce hL2 hS2 _ h1 h2 h3 => ?_)
    cases hk
    exact hout H2 locs2 q ce 0 g _ _ _ _ er h5 hL2 hS2 h1 h2 h3 (Nat.le_of_ble_eq_true rfl) (Nat.le_of_ble_eq_true rfl)
  rw [q_ckK_ok hkd, q_bV] at hF
  refine zl_run (zl_rS (n := 1) (vs := [.inl (nI kd)]) (rest := []) (zt_X4_checkKind l hl) wK c2 (by decide +kernel) ⟨Nat.le_of_ble_eq_true rfl, Nat.le_of_ble_eq_true rfl⟩ ⟨hx, hb, hml, hown, hts⟩ hK hE0 hA hS1 hL1 (q_ckK_ok hkd) rfl rfl (Nat.le_of_ble_eq_true rfl) hls.1 (by decide +kernel : decode cX4_text 5 = .ok (.invokestatic 70, 3)) ⟨hcl _ (by decide), hsl _ (by decide)⟩) hA hS1 hL1 (fun vv hvv _ H2 locs2 hL2 hS2 _ => ?_) (fun k hk => nomatch hk)
  cases hvv
  have hthr : r = (.inr 0, g) → W p l e (headSpec (.code yX4_text cX4_text 5 (some .int) :: zWS) (zrm 75 5 420)).room s m av below meth c H2 locs2 (0 + 1 + 1) (0 + 6 + 6) (vx_MQ below (zQu D ca ad A g r) (zX D ca ad A g r) av s 5 420 A) (F0 m 20 ls []) := by
    intro er
    subst er
    have ht := z_throw (l := l) hl (R := (headSpec (.code yX4_text cX4_text 5 (some .int) :: zWS) (zrm 75 5 420)).room) (nL := 5) (pc := 20) (x := 0) (ik := 73) (is := 75) (ic := 77) (cc := cX4_text) (text := "not so many bytes on the tape") z_thb0 (by decide +kernel) (by decide +kernel) (Nat.le_of_ble_eq_true rfl) (Nat.le_of_ble_eq_true rfl)
    have hg := ht p e s m _ below meth c D ca ad A g ⟨hx, hb, hml, hown, hts, hK, hA, hE, hlocks, hex⟩ [] [] g (1, 6) (Nat.le_refl _) (Nat.le_refl _) (Nat.le_of_ble_eq_true rfl) H2 locs2 (0 + 1 + 1) (0 + 6 + 6) ls hL2.1 hS2 (lv_sub hls [] rfl) (Nat.le_of_ble_eq_true rfl) (Nat.le_of_ble_eq_true rfl) rfl
    refine W_imp (fun t ht => vx_MQ_imp (fun o t h => ?_) rfl rfl ht) hg
    obtain ⟨⟨v, h1, -⟩, -⟩ := h
    cases h1
  refine lv_iload_n hx hb (by decide +kernel : decode cX4_text 8 = .ok (.iload_n 3, 1)) rfl (lv_at hls 3 rfl) ?_
  refine lv_if_lt (tgt := 20) hx hb (by decide +kernel : decode cX4_text 9 = .ok (.ifCond .lt 11, 3)) (by decide) (fun b0 => ?_) (fun b0 => ?_)
  · rw [if_pos b0] at hF
    exact hthr (Option.some.inj hF).symm
  rw [if_neg b0] at hF
  refine lv_iload_n hx hb (by decide +kernel : decode cX4_text 12 = .ok (.iload_n 3, 1)) rfl (lv_at hls 3 rfl) ?_
  refine lv_aload_n hx hb (by decide +kernel : decode cX4_text 13 = .ok (.aload_n 0, 1)) rfl (lv_at hls 0 rfl) ?_
  refine zl_get (k := 0) (o := 0) (kf := 12) (own := RX4) hx hb hts hown hK hL2 rfl (by decide) (by decide) (by decide) c11 rfl (by decide +kernel : decode cX4_text 14 = .ok (.getfield 59, 3)) ?_
  show W p l e _ s m _ below meth c H2 locs2 _ _ _ (F0 m 17 ls (.int ((g 0 0).1 12) :: .int x3 :: []))
  refine lv_icmp_le (tgt := 30) hx hb (by decide +kernel : decode cX4_text 17 = .ok (.if_icmp .le 13, 3)) (by decide) (fun b1 => ?_) (fun b1 => ?_)
  case refine_2 =>
    rw [if_pos (show (g 0 0).1 12 < x3 by
      rw [fa_lt]
      rw [fa_le] at b1
      omega)] at hF
    exact hthr (Option.some.inj hF).symm
  rw [if_neg (show ¬ (g 0 0).1 12 < x3 by
      rw [fa_lt]
      rw [fa_le] at b1
      omega)] at hF
  refine lv_aload_n hx hb (by decide +kernel : decode cX4_text 30 = .ok (.aload_n 0, 1)) rfl (lv_at hls 0 rfl) ?_
  refine lv_iconst (v := 0) hx hb (by decide +kernel : decode cX4_text 31 = .ok (.iconst 0, 1)) rfl ?_
  obtain ⟨q0, e1, e2⟩ := z_wlget (ad := ad) (ca := ca) (g := g) (zWI_obj 0 (by decide) 0 (by decide))
  refine va_put (D := D) (cl := zCL) (tys := zTL ca) (ci := 0) (C := RX4) (T := TX4) (N := 13) (ty := .int) hx hb hts (z_inFw (c := 0) rfl) (z_ty 0) (z_tyok (c := 0) rfl) (z_nmok (c := 0) rfl) hown hK hL2.1.1 hL2.1.2 hS2 q0 e2 rfl 12 (by decide) (hts _ c11) (fun _ h => h) rfl (by decide +kernel) rfl rfl (Nat.le_of_ble_eq_true rfl) (by decide +kernel : decode cX4_text 32 = .ok (.putfield 59, 3)) (fun H3 locs3 hP3 hD3 hS3 => ?_)
  have hset : (z_wl ad ca g).set q0 (z_aq ad (0, 0, 0), .inr (0, ((List.range (z_nf 0)).map (z_fval ad g 0 0)).set 12 (.int 0))) = z_wl ad ca (z_gI g 0 0 12 0) := by
    refine z_wlset e1 ?_ (fun q' hq' => z_cell_gI (by decide) hq')
    rw [z_cell_0]
    congr 2
  rw [hset] at hP3 hD3
  have hL3 := zt_LI hE hS3 hP3 hD3 (z_gI_5 (by decide))
  refine lv_aload_n hx hb (by decide +kernel : decode cX4_text 35 = .ok (.aload_n 0, 1)) rfl (lv_at hls 0 rfl) ?_
  refine zl_get (k := 0) (o := 0) (kf := 5) (own := RX4) (v := .ref (ad 1 0 0)) hx hb hts hown hK hL3 rfl (by decide) (by decide) (by decide) c12 rfl (by decide +kernel : decode cX4_text 36 = .ok (.getfield 26, 3)) ?_
  refine lv_aload_n hx hb (by decide +kernel : decode cX4_text 39 = .ok (.aload_n 0, 1)) rfl (lv_at hls 0 rfl) ?_
  refine zl_get (k := 0) (o := 0) (kf := 0) (own := RX4) (v := .ref (ad 0 0 1)) hx hb hts hown hK hL3 rfl (by decide) (by decide) (by decide) c13 rfl (by decide +kernel : decode cX4_text 40 = .ok (.getfield 9, 3)) ?_
  refine lv_iload_n hx hb (by decide +kernel : decode cX4_text 43 = .ok (.iload_n 3, 1)) rfl (lv_at hls 3 rfl) ?_
  rcases z_bI_cases hF with ⟨b, g3, eU, hF⟩ | ⟨x, g3, eU, er⟩
  case inr =>
    refine zl_run (zl_rV (cn := 1) (i := 0) (n := 2) (vs := [.inr (.inl (0, 0, 1)), .inl x3]) (rest := []) (C := RX1) (zt_X1_understands l) wU c3 rfl (by decide +kernel) ⟨Nat.le_of_ble_eq_true rfl, Nat.le_of_ble_eq_true rfl⟩ rfl (by decide) (by decide) ⟨hx, hb, hml, hown, hts⟩ hK hE0 hA hS3 hL3 eU rfl rfl (Nat.le_of_ble_eq_true rfl) hls.1 (by decide +kernel : decode cX4_text 44 = .ok (.invokevirtual 80, 3)) ⟨hcl _ (by decide), hsl _ (by decide)⟩) hA hS3 hL3 (fun v h => nomatch h) (fun k hk h5 H4 locs4 q ce hL4 hS4 _ h1 h2 h3 => ?_)
    cases hk
    exact hout H4 locs4 q ce x g3 _ _ _ _ er (h5.trans (z_gI_5 (by decide))) hL4 hS4 h1 h2 h3 (Nat.le_of_ble_eq_true rfl) (Nat.le_of_ble_eq_true rfl)
  refine zl_run (zl_rV (cn := 1) (i := 0) (n := 2) (vs := [.inr (.inl (0, 0, 1)), .inl x3]) (rest := []) (C := RX1) (zt_X1_understands l) wU c3 rfl (by decide +kernel) ⟨Nat.le_of_ble_eq_true rfl, Nat.le_of_ble_eq_true rfl⟩ rfl (by decide) (by decide) ⟨hx, hb, hml, hown, hts⟩ hK hE0 hA hS3 hL3 eU rfl rfl (Nat.le_of_ble_eq_true rfl) hls.1 (by decide +kernel : decode cX4_text 44 = .ok (.invokevirtual 80, 3)) ⟨hcl _ (by decide), hsl _ (by decide)⟩) hA hS3 hL3 (fun vv hvv h53 H4 locs4 hL4 hS4 _ => ?_) (fun k hk => nomatch hk)
  cases hvv
  have h53' : g3 5 = g 5 := h53.trans (z_gI_5 (by decide))
  show W p l e _ s m _ below meth c H4 locs4 _ _ _ (F0 m 47 ls (.int b :: []))
  refine lv_if_ne (tgt := 61) hx hb (by decide +kernel : decode cX4_text 47 = .ok (.ifCond .ne 14, 3)) (by decide) (fun b2 => ?_) (fun b2 => ?_)
  case refine_2 =>
    rw [if_pos b2, (ze_X1_place _).trans (zu_X1_place_0 99999 _), q_bI] at hF
    have er := (Option.some.inj hF).symm
    refine lv_bipush (v := -2) hx hb (by decide +kernel : decode cX4_text 50 = .ok (.bipush (-2), 2)) (by decide) ?_
    refine lv_aload_n hx hb (by decide +kernel : decode cX4_text 52 = .ok (.aload_n 0, 1)) rfl (lv_at hls 0 rfl) ?_
    refine zl_get (k := 0) (o := 0) (kf := 5) (own := RX4) (v := .ref (ad 1 0 0)) hx hb hts hown hK hL4 rfl (by decide) (by decide) (by decide) c12 rfl (by decide +kernel : decode cX4_text 53 = .ok (.getfield 26, 3)) ?_
    refine zl_run (zl_rV (cn := 1) (i := 0) (n := 0) (vs := []) (rest := [.int (-2)]) (C := RX1) (zt_X1_place l) wP c4 rfl (by decide +kernel) ⟨Nat.le_of_ble_eq_true rfl, Nat.le_of_ble_eq_true rfl⟩ rfl (by decide) (by decide) ⟨hx, hb, hml, hown, hts⟩ hK hE0 hA hS4 hL4 ((ze_X1_place g3).trans (zu_X1_place_0 99999 g3)) rfl rfl (Nat.le_of_ble_eq_true rfl) hls.1 (by decide +kernel : decode cX4_text 56 = .ok (.invokevirtual 84, 3)) ⟨hcl _ (by decide), hsl _ (by decide)⟩) hA hS4 hL4 (fun vv hvv h54 H5 locs5 hL5 hS5 _ => ?_) (fun k hk => nomatch hk)
    cases hvv
    show W p l e _ s m _ below meth c H5 locs5 _ _ _ (F0 m 59 ls (.int ((g3 1 0).1 3) :: .int (-2) :: []))
    refine lv_isub hx hb (by decide +kernel : decode cX4_text 59 = .ok (.isub, 1)) ?_
    refine W.widen (k := 5) (n := 420) (Nat.le_of_ble_eq_true rfl) (Nat.le_of_ble_eq_true rfl) ?_
    refine vx_ret ?_
    refine W.iret hx hb hr (fun t ht hW => ?_) hS5.2.2 (by decide +kernel : decode cX4_text 60 = .ok (.ireturn, 1)) hlocks
    subst er
    exact ⟨⟨some (.inl ((-2 : Int32) - (g3 1 0).1 3)), ad, rfl, rfl, fun _ _ _ _ => rfl, by rw [ht]; exact hL5.1, by rw [ht]; exact hL5.2.1, fun q _ => Or.inl rfl⟩, hS5.F ht⟩
  rw [if_neg b2] at hF
  by_cases hin : z_inb ((g3 1 0).1 4) 400
  case neg =>
    rw [if_neg hin] at hF
    cases hF
  rw [if_pos hin, q_fgt, q_bV] at hF
  have er := (Option.some.inj hF).symm
  obtain ⟨k, hk4, hk⟩ : ∃ k, k < 400 ∧ (g3 1 0).1 4 = nI k := by
    rcases q_ix ((g3 1 0).1 4) (n := 400) (by decide) with ⟨k, h1, h2⟩ | h1
    · exact ⟨k, h1, h2⟩
    · exfalso
      obtain ⟨i1, i2⟩ := hin
      rcases h1 with h1 | h1
      · rw [fa_lt] at h1
        have : (0 : Int32).toInt = 0 := by decide
        omega
      · rw [fa_le, nI_toInt (by decide)] at h1
        omega
  have ht8 : v * 4 + kd < 8 := by omega
  have e4 : nI v * (4 : Int32) + nI kd = nI (v * 4 + kd) := by rw [show (4 : Int32) = nI 4 from rfl, pk_mul, nI_add]
  have hcl4 : (nI v * (4 : Int32) + nI kd).toNatClampNeg = v * 4 + kd := by rw [e4, nI_clamp (by omega)]
  rw [hcl4] at er
  refine lv_aload_n hx hb (by decide +kernel : decode cX4_text 61 = .ok (.aload_n 0, 1)) rfl (lv_at hls 0 rfl) ?_
  refine zl_get (k := 0) (o := 0) (kf := 5) (own := RX4) (v := .ref (ad 1 0 0)) hx hb hts hown hK hL4 rfl (by decide) (by decide) (by decide) c12 rfl (by decide +kernel : decode cX4_text 62 = .ok (.getfield 26, 3)) ?_
  have hmr : (1, 0, 0) ∈ zWI := zWI_obj 1 (by decide) 0 (by decide)
  have hms : (1, 0, 1) ∈ zWI := by decide +kernel
  have hne : ad 1 0 0 ≠ ad 1 0 1 := fun h9 => by
    obtain ⟨k1, h1, h2⟩ := z_wlget (ad := ad) (ca := ca) (g := g3) hmr
    obtain ⟨k2, h3, h4⟩ := z_wlget (ad := ad) (ca := ca) (g := g3) hms
    have h5 := hL4.1.2.1 k1 k2 _ _ h2 h4 h9
    rw [h5, h3] at h1
    cases h1
  have hcell : va_P D zCL [(ad 1 0 0, .inr (1, (List.range (z_nf 1)).map (z_fval ad g3 1 0))), (ad 1 0 1, .inl (ca 0, 400, .inl ((g3 1 0).2 0)))] H4 := zP_iff.mpr fun y hy => by
    rcases List.mem_cons.mp hy with h9 | h9
    · rw [h9]
      exact z_atW hL4.1 hmr
    · rw [List.mem_singleton] at h9
      rw [h9]
      exact z_atW hL4.1 hms
  refine va_callr (va_runV (As := []) (rest := []) (C := RX1) (own := RX4) ⟨hx, hb, hml, hown, hts⟩ (zt_script l D ca (ad 1 0 0) (ad 1 0 1) H4.size k ((g3 1 0).1 5) ((List.range (z_nf 1)).map (z_fval ad g3 1 0)) ((g3 1 0).2 0) hne hk4 rfl (by rw [← hk]; rfl) rfl) ⟨callB_of 0 hts (z_goodV (own := RX4) (C := RX1) (j := 88) c10) rfl rfl rfl (hts _ c9) (hts _ c6) (by decide +kernel) ⟨Nat.le_of_ble_eq_true rfl, Nat.le_of_ble_eq_true rfl⟩, hts _ c7, hts _ c8⟩ ⟨zPsc_blind, va_recv hK hcell (q := (RX1, TX1, 6)) (ci := 1) (q0 := 0) rfl rfl, fun U hU hW => ⟨rfl, by rw [hU], va_K.moved hW.alike hK, by rw [hU]; exact hcell⟩⟩ rfl rfl hls.1 rfl (lv_room (Nat.le_of_ble_eq_true rfl)) (by decide +kernel : decode cX4_text 65 = .ok (.invokevirtual 88, 3)) ⟨hcl _ (by decide), hsl _ (by decide)⟩) hS4 (fun x _ hx9 => hx9.elim (fun h9 => by rw [h9]; exact zl_in hL4 hms) (fun h9 => hA x (Nat.le_trans hS4.1 h9))) (fun x hx9 => hx9.elim (fun h9 => by rw [h9]; exact zl_in hL4 hms) (fun h9 => hA x (Nat.le_trans hS4.1 h9))) (fun u q t5 H5 locs5 ht5 hvm5 hpo hB5 hz5 hk5 hS5 => ?_)
  obtain ⟨hq5, hqr, hB5⟩ := hB5
  obtain ⟨hr5, hh5⟩ := hpo
  rw [ht5] at hB5
  obtain ⟨rr, h⟩ := u
  have hr5 : H4.size ≤ rr := hr5
  have hqr : q < rr := hqr
  have hP5 : va_P D zCL (z_wl ad ca g3) H5 := zP_iff.mpr fun y hy => by
    unfold z_wl at hy
    obtain ⟨x, hxm, ey⟩ := List.mem_map.mp hy
    rw [← ey]
    by_cases hxs : z_aq ad x = ad 1 0 1
    · have hxe : x = (1, 0, 1) := by
        obtain ⟨k1, h1, h2⟩ := z_wlget (ad := ad) (ca := ca) (g := g3) hxm
        obtain ⟨k2, h3, h4⟩ := z_wlget (ad := ad) (ca := ca) (g := g3) hms
        have h5 := hL4.1.2.1 k1 k2 _ _ h2 h4 hxs
        rw [h5, h3] at h1
        exact (Option.some.inj h1).symm
      rw [hxe]
      exact hB5 0 _ rfl
    · have h9 := z_atW hL4.1 hxm
      refine h9.kept (hk5 _ (zl_lt hL4 hxm) ?_)
      rintro (h8 | h8)
      · exact hxs h8
      · have := zl_lt hL4 hxm
        have h8 : H4.size ≤ z_aq ad x := h8
        omega
  have hL5 := zt_LI hE hS5 hP5 hL4.1.2 h53'
  refine lv_astore (lv' := [(4, .ref q), (0, .ref (ad 0 0 0)), (1, .int (nI v)), (2, .int (nI kd)), (3, .int x3)]) hx hb (by decide +kernel : decode cX4_text 68 = .ok (.astore 4, 2)) hls (by decide) rfl (fun ls hls => ?_)
  refine lv_aload_n hx hb (by decide +kernel : decode cX4_text 70 = .ok (.aload_n 0, 1)) rfl (lv_at hls 1 rfl) ?_
  refine zl_get (k := 0) (o := 0) (kf := 4) (own := RX4) (v := .ref (ad 0 0 5)) hx hb hts hown hK hL5 rfl (by decide) (by decide) (by decide) c14 rfl (by decide +kernel : decode cX4_text 71 = .ok (.getfield 42, 3)) ?_
  refine lv_iload_n hx hb (by decide +kernel : decode cX4_text 74 = .ok (.iload_n 1, 1)) rfl (lv_at hls 2 rfl) ?_
  refine lv_iconst (v := 4) hx hb (by decide +kernel : decode cX4_text 75 = .ok (.iconst 4, 1)) rfl ?_
  refine lv_imul hx hb (by decide +kernel : decode cX4_text 76 = .ok (.imul, 1)) ?_
  refine lv_iload_n hx hb (by decide +kernel : decode cX4_text 77 = .ok (.iload_n 2, 1)) rfl (lv_at hls 3 rfl) ?_
  refine lv_iadd hx hb (by decide +kernel : decode cX4_text 78 = .ok (.iadd, 1)) ?_
  refine lv_aload hx hb (by decide +kernel : decode cX4_text 79 = .ok (.aload 4, 2)) (lv_at hls 0 rfl) ?_
  obtain ⟨k0, hk0⟩ := z_wlk5
  have hlen : k0 < (z_wl ad ca g3).length := by
    unfold z_wl
    rw [List.length_map]
    exact (List.getElem?_eq_some_iff.mp hk0).1
  have hqw : ∀ x ∈ zWI, z_aq ad x ≠ q ∧ z_aq ad x ≠ rr := fun x hxm => by
    have := zl_lt hL4 hxm
    exact ⟨by omega, by omega⟩
  have hNw : va_P D zCL [(q, .inr (5, [.ref rr, .int ((g3 1 0).1 5)])), (rr, .inl (ca 0, k, .inl h))] H5 := zP_iff.mpr fun y hy => by
    rcases List.mem_cons.mp hy with h9 | h9
    · rw [h9]; exact hB5 1 _ rfl
    · rw [List.mem_singleton] at h9
      rw [h9]; exact hB5 2 _ rfl
  have hPx : va_P D zCL (z_wl ad ca g3 ++ [(q, .inr (5, [.ref rr, .int ((g3 1 0).1 5)])), (rr, .inl (ca 0, k, .inl h))]) H5 := hP5.app hNw
  have hDx : va_D A (z_wl ad ca g3 ++ [(q, .inr (5, [.ref rr, .int ((g3 1 0).1 5)])), (rr, .inl (ca 0, k, .inl h))]) := va_D.app hL5.1.2 (zD_iff.mpr ⟨by
      simp only [List.map_cons, List.map_nil, List.nodup_cons, List.mem_singleton, List.not_mem_nil, not_false_eq_true, List.nodup_nil, and_true]
      omega, fun y hy => by
      rcases List.mem_cons.mp hy with h9 | h9
      · rw [h9]; exact hA q (Nat.le_trans hS4.1 hq5)
      · rw [List.mem_singleton] at h9
        rw [h9]; exact hA rr (Nat.le_trans hS4.1 hr5)⟩) (fun i j p1 p2 hi hj => by
    obtain ⟨x, hxm, ex⟩ := z_wlmem hi
    match j, hj with
    | 0, hj => cases hj; rw [ex]; exact (hqw x hxm).1
    | 1, hj => cases hj; rw [ex]; exact (hqw x hxm).2
    | j + 2, hj => simp at hj)
  have hwk0 : (z_wl ad ca g3)[k0]? = some (ad 0 0 5, .inl (ca 3, 8, zRf (fun j => some (ad 5 j 0)))) := by
    unfold z_wl
    rw [List.getElem?_map, hk0]
    rfl
  refine va_astq (r := (RX3, TX3, 2)) (vs := [.ref rr, .int ((g3 1 0).1 5)]) (f := fun j => some (ad 5 j 0)) hx hb hK hPx hDx hS5 k0 3 (z_wl ad ca g3).length 5 (by rw [List.getElem?_append_left hlen]; exact hwk0) rfl (by rw [List.getElem?_append_right (Nat.le_refl _), Nat.sub_self]; rfl) rfl (by rw [e4]; exact z_vpin ht8 (by decide)) (by decide +kernel : decode cX4_text 81 = .ok (.aastore, 1)) (fun H6 locs6 hP6 hD6 hS6 => ?_)
  rw [hcl4, List.set_append_left _ _ hlen] at hP6 hD6
  have hPl : va_P D zCL ((z_wl ad ca g3).set k0 (ad 0 0 5, .inl (ca 3, 8, zRf (va_up (fun j => some (ad 5 j 0)) (v * 4 + kd) (some q))))) H6 := zP_iff.mpr fun y hy => zP_iff.mp hP6 y (List.mem_append_left _ hy)
  have hDl : va_D A ((z_wl ad ca g3).set k0 (ad 0 0 5, .inl (ca 3, 8, zRf (va_up (fun j => some (ad 5 j 0)) (v * 4 + kd) (some q))))) := hL5.1.2.set hwk0
  have hNw6 : va_P D zCL [(q, .inr (5, [.ref rr, .int ((g3 1 0).1 5)])), (rr, .inl (ca 0, k, .inl h))] H6 := zP_iff.mpr fun y hy => zP_iff.mp hP6 y (List.mem_append_right _ hy)
  have hLn : zLI D ca (zAt ad (v * 4 + kd) q rr) A (zX_scr g3 (v * 4 + kd)) H6 := zt_new (k := k) (h := h) (k0 := k0) ht8 hk hk4 hL5 hk0 hPl hDl (by rw [z_sl_cong h53']; exact (hE.kept hS6.2.1).1) hqw hNw6 hh5
  have hae := zAt_e ad (v * 4 + kd) q rr
  refine lv_aload_n hx hb (by decide +kernel : decode cX4_text 82 = .ok (.aload_n 0, 1)) rfl (lv_at hls 1 rfl) ?_
  refine zl_run (zl_rV (ad := zAt ad (v * 4 + kd) q rr) (cn := 0) (i := 0) (n := 0) (vs := []) (rest := []) (C := RX4) (zt_X4_forgetRuns l hl) wF c5 rfl (by decide +kernel) ⟨Nat.le_of_ble_eq_true rfl, Nat.le_of_ble_eq_true rfl⟩ rfl (by decide) (by decide) ⟨hx, hb, hml, hown, hts⟩ hK (hE0.ad hae) hA hS6 hLn (q_fgt _) rfl (by rw [hae 0 0 0 (by decide)]; rfl) (Nat.le_of_ble_eq_true rfl) hls.1 (by decide +kernel : decode cX4_text 83 = .ok (.invokevirtual 92, 3)) ⟨hcl _ (by decide), hsl _ (by decide)⟩) hA hS6 hLn (fun vv hvv h57 H7 locs7 hL7 hS7 _ => ?_) (fun k hk => nomatch hk)
  cases hvv
  show W p l e _ s m _ below meth c H7 locs7 _ _ _ (F0 m 86 ls [])
  refine lv_aload hx hb (by decide +kernel : decode cX4_text 86 = .ok (.aload 4, 2)) (lv_at hls 0 rfl) ?_
  subst er
  dsimp only at h57 hL7
  obtain ⟨k9, hk9⟩ := z_slget (ad := zAt ad (v * 4 + kd) q rr) (ca := ca) (g := q_O (zX_scr g3 (v * 4 + kd)) 0 0 (upd (upd (zX_scr g3 (v * 4 + kd) 0 0).1 11 0) 10 0, (zX_scr g3 (v * 4 + kd) 0 0).2)) (zSI_obj (v * 4 + kd) ht8)
  have eq9 : z_aq (zAt ad (v * 4 + kd) q rr) (5, v * 4 + kd, 0) = q := by
    show zAt ad (v * 4 + kd) q rr 5 (v * 4 + kd) 0 = q
    unfold zAt
    rw [if_pos ⟨rfl, rfl⟩, if_pos rfl]
  have hc9 := hL7.2.1 k9 _ hk9
  rw [eq9, z_cell_0] at hc9
  refine va_get (D := D) (cl := zCL) (tys := zTL ca) (ci := 5) (C := RX3) (T := TX3) (N := 2) (v := .int ((g3 1 0).1 5)) hx hb hts (z_inFw (c := 5) rfl) hown hK (z_one hc9) 0 rfl rfl 1 (by decide) (hts _ c15) (fun _ h => h) ?_ (by decide +kernel : decode cX4_text 88 = .ok (.getfield 95, 3)) ?_
  · show some (Value.int (((q_O (zX_scr g3 (v * 4 + kd)) 0 0 (upd (upd (zX_scr g3 (v * 4 + kd) 0 0).1 11 0) 10 0, (zX_scr g3 (v * 4 + kd) 0 0).2)) 5 (v * 4 + kd)).1 1)) = _
    rw [h57]
    unfold zX_scr
    rw [q_O_get]
    rfl
  · refine W.widen (k := 5) (n := 420) (Nat.le_of_ble_eq_true rfl) (Nat.le_of_ble_eq_true rfl) ?_
    refine vx_ret ?_
    refine W.iret hx hb hr (fun t ht hW => ⟨⟨some (.inl ((g3 1 0).1 5)), zAt ad (v * 4 + kd) q rr, rfl, rfl, hae, by rw [ht]; exact hL7.1, by rw [ht]; exact hL7.2.1, fun y hy => ?_⟩, hS7.F ht⟩) hS7.2.2 (by decide +kernel : decode cX4_text 91 = .ok (.ireturn, 1)) hlocks
    obtain ⟨c9, i9, k9⟩ := y
    show zAt ad (v * 4 + kd) q rr c9 i9 k9 = ad c9 i9 k9 ∨ s.heap.size ≤ zAt ad (v * 4 + kd) q rr c9 i9 k9
    unfold zAt
    by_cases h9 : c9 = 5 ∧ i9 = v * 4 + kd
    · rw [if_pos h9]
      right
      split
      · exact Nat.le_trans hS4.1 hq5
      · exact Nat.le_trans hS4.1 hr5
    · rw [if_neg h9]
      exact Or.inl rfl
