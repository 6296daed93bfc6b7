/-! ===== the wrappers of the law, further ===== -/
theorem zw_ws_never : (decide (Cond.methodLink RL 49 yX4_never ∈ zWS) && decide (Cond.instanceMethod yX4_never ∈ zWS) && decide (Cond.selects RX4 yX4_never yX4_never ∈ zWS) && decide (Cond.initialized RX4 ∈ zWS)) = true ∧ Cond.code yX4_never cX4_never 4 (some .int) ∈ zWS := ⟨by decide +kernel, by decide +kernel⟩
set_option maxHeartbeats 4000000 in
theorem zw_never (l : Launch) (hl : l.stackTraces = false) (D : va_G) (ca : Nat → ClassId) (ad : zAD) (A : Nat → Prop) (g : zSG) (ao : Nat) (cJ : ClassId) (f : Nat → Int64) (x1 x2 : Int32) (r : zRR) (hF : zF_X4_never (.inr (.inl (0, 0, 0)) :: [.inl x1, .inl x2]) g = some r) (hgood : zGood q_eI r.1) : vx_Met l yL_never (.codeWith yL_never cL_never 5 (some .int) [(0, 10, 13, 13)] :: zWS) (zrm 90 6 430) (va_Pc [.ref (ad 0 0 0), .int x1, .int x2, .ref ao] (zPw D ca ad A g ao cJ f)) (zQw D ca ad A r.2 ao cJ r.1 q_eI Int32.toInt64) (fun _ _ _ => False) 6 430 A := by
  refine vx_ofWH (by decide +kernel) rfl ?_
  intro p e s m args below meth c s₁ B hml hv
  obtain ⟨rfl, hK, hKJ, hL, hO, hA, hE0, hN1, hN2⟩ := hv
  have hx := B.exec
  have hb := B.bytes
  have hr := B.returns
  have hpre := atoms_spec (ws := .codeWith yL_never cL_never 5 (some .int) [(0, 10, 13, 13)] :: zWS) B.pre
  have hts : ∀ w ∈ zWS, w.before _ s = true := fun w hw => hpre w (List.mem_cons_of_mem _ hw)
  have htab := vx_table (x := yL_never) B (hpre _ List.mem_cons_self)
  have hown : s.vm.findClass RL = some m.cls := findClass_of_methodNamed B.named
  have hlocks := B.notSynchronized
  have hS : va_S A s.heap s.heap [] := va_S.rf
  have hl0 := lv_entry ([.ref (ad 0 0 0), .int x1, .int x2, .ref ao]) (n := 5) (Nat.le_of_ble_eq_true rfl)
  rw [lg_entry_eq]
  generalize (lg_sl ([.ref (ad 0 0 0), .int x1, .int x2, .ref ao]) ++ List.replicate (5 - (lg_sl ([.ref (ad 0 0 0), .int x1, .int x2, .ref ao])).length) Slot.unset).toArray = ls at hl0 ⊢
  have hls : lv_has ls 5 [(0, .ref (ad 0 0 0)), (1, .int x1), (2, .int x2), (3, .ref ao)] := hl0
  generalize ([.ref (ad 0 0 0), .int x1, .int x2, .ref ao] : List Value).toArray = av at hts ⊢
  have hcl : ∀ n, n ≤ 6 → n ≤ (headSpec (.codeWith yL_never cL_never 5 (some .int) [(0, 10, 13, 13)] :: zWS) (zrm 90 6 430)).room.cells := fun n h => h
  have hsl : ∀ n, n ≤ 430 → n ≤ (headSpec (.codeWith yL_never cL_never 5 (some .int) [(0, 10, 13, 13)] :: zWS) (zrm 90 6 430)).room.slots := fun n h => h
  refine lv_aload_n hx hb (by decide +kernel : decode cL_never 0 = .ok (.aload_n 3, 1)) rfl (lv_at hls 3 rfl) ?_
  refine lv_iconst (v := 0) hx hb (by decide +kernel : decode cL_never 1 = .ok (.iconst 0, 1)) rfl ?_
  refine lv_aload_n hx hb (by decide +kernel : decode cL_never 2 = .ok (.aload_n 0, 1)) rfl (lv_at hls 0 rfl) ?_
  refine lv_iload_n hx hb (by decide +kernel : decode cL_never 3 = .ok (.iload_n 1, 1)) rfl (lv_at hls 1 rfl) ?_
  refine lv_iload_n hx hb (by decide +kernel : decode cL_never 4 = .ok (.iload_n 2, 1)) rfl (lv_at hls 2 rfl) ?_
  have hw := zw_ws_never
  refine zl_runU (zl_runCU (zl_rV (cn := 0) (i := 0) (n := 2) (vs := [.inl x1, .inl x2]) (rest := [.int 0, .ref ao]) (C := RX4) (zt_X4_never l hl) hw.1 hw.2 rfl (by decide +kernel) ⟨Nat.le_of_ble_eq_true rfl, Nat.le_of_ble_eq_true rfl⟩ rfl (by decide) (by decide) ⟨hx, hb, hml, hown, hts⟩ hK hE0 hA hS hL hF rfl rfl (Nat.le_of_ble_eq_true rfl) hls.1 (by decide +kernel : decode cL_never 5 = .ok (.invokevirtual 49, 3)) ⟨hcl _ (by decide), hsl _ (by decide)⟩) hL) hA hS hL (fun vv hvv H1 locs1 ad1 hae hL1 hnw hS1 hk1 => ?_) (fun k hk H1 locs1 q ce hL1 hS1 hk1 h1 h2 h3 => ?_)
  · obtain ⟨val, hval⟩ := zGood_v hgood hvv
    subst hval
    have hO1 := zw_O hO hL hk1 hae hnw
    refine lv_i2l (v := val.toInt64) hx hb (by decide +kernel : decode cL_never 8 = .ok (.i2l, 1)) rfl ?_
    exact zw_fin (cv := Int32.toInt64) (a := 9) (en := 17) hx hb hr hlocks hKJ hL1 hO1 hS1 hae hvv (hcl _ (by decide)) (hsl _ (by decide)) (by decide +kernel : decode cL_never 9 = .ok (.lastore, 1)) (by decide +kernel : decode cL_never 10 = .ok (.goto 7, 3)) (by decide) (by decide +kernel : decode cL_never 17 = .ok (.iconst 0, 1)) (by decide +kernel : decode cL_never 18 = .ok (.ireturn, 1))
  · have hO1 := zw_O hO hL hk1 (fun _ _ _ _ => rfl) (fun q _ => Or.inl rfl)
    have hgk := zGood_x hgood hk
    have ek : k = 0 := q_eI_ne hgk
    subst ek
    refine z_catch1 (own := RL) (name := zEx 0) (x := ⟨0, 10, 13, 13⟩) (suf := []) hown htab (by decide) (by decide) (hts (.classLink RL 13 (zEx 0)) (by decide +kernel)) (zE0_cast hE0 0 (by decide)) h1 h2 h3 ?_
    refine lv_astore (lv' := (4, .ref q) :: [(0, .ref (ad 0 0 0)), (1, .int x1), (2, .int x2), (3, .ref ao)]) hx hb (by decide +kernel : decode cL_never 13 = .ok (.astore 4, 2)) hls (by decide) rfl (fun ls hls => ?_)
    refine lv_iconst (v := 1) hx hb (by decide +kernel : decode cL_never 15 = .ok (.iconst 1, 1)) rfl ?_
    exact zw_exc hx hb hr hlocks hL1 hO1 hS1 hk rfl (hcl _ (by decide)) (hsl _ (by decide)) (by decide +kernel : decode cL_never 16 = .ok (.ireturn, 1))
theorem zw_ws_noise : (decide (Cond.methodLink RL 52 yX4_noise ∈ zWS) && decide (Cond.instanceMethod yX4_noise ∈ zWS) && decide (Cond.selects RX4 yX4_noise yX4_noise ∈ zWS) && decide (Cond.initialized RX4 ∈ zWS)) = true ∧ Cond.code yX4_noise cX4_noise 5 (some .boolean) ∈ zWS := ⟨by decide +kernel, by decide +kernel⟩
set_option maxHeartbeats 4000000 in
theorem zw_noise (l : Launch) (hl : l.stackTraces = false) (D : va_G) (ca : Nat → ClassId) (ad : zAD) (A : Nat → Prop) (g : zSG) (ao : Nat) (cJ : ClassId) (f : Nat → Int64) (x1 x2 x3 : Int32) (r : zRR) (hF : zF_X4_noise (.inr (.inl (0, 0, 0)) :: [.inl x1, .inl x2, .inl x3]) g = some r) (hgood : zGood q_eI r.1) : vx_Met l yL_noise (.codeWith yL_noise cL_noise 6 (some .int) [(0, 19, 22, 13)] :: zWS) (zrm 90 6 430) (va_Pc [.ref (ad 0 0 0), .int x1, .int x2, .int x3, .ref ao] (zPw D ca ad A g ao cJ f)) (zQw D ca ad A r.2 ao cJ r.1 q_eI zBo) (fun _ _ _ => False) 6 430 A := by
  refine vx_ofWH (by decide +kernel) rfl ?_
  intro p e s m args below meth c s₁ B hml hv
  obtain ⟨rfl, hK, hKJ, hL, hO, hA, hE0, hN1, hN2⟩ := hv
  have hx := B.exec
  have hb := B.bytes
  have hr := B.returns
  have hpre := atoms_spec (ws := .codeWith yL_noise cL_noise 6 (some .int) [(0, 19, 22, 13)] :: zWS) B.pre
  have hts : ∀ w ∈ zWS, w.before _ s = true := fun w hw => hpre w (List.mem_cons_of_mem _ hw)
  have htab := vx_table (x := yL_noise) B (hpre _ List.mem_cons_self)
  have hown : s.vm.findClass RL = some m.cls := findClass_of_methodNamed B.named
  have hlocks := B.notSynchronized
  have hS : va_S A s.heap s.heap [] := va_S.rf
  have hl0 := lv_entry ([.ref (ad 0 0 0), .int x1, .int x2, .int x3, .ref ao]) (n := 6) (Nat.le_of_ble_eq_true rfl)
  rw [lg_entry_eq]
  generalize (lg_sl ([.ref (ad 0 0 0), .int x1, .int x2, .int x3, .ref ao]) ++ List.replicate (6 - (lg_sl ([.ref (ad 0 0 0), .int x1, .int x2, .int x3, .ref ao])).length) Slot.unset).toArray = ls at hl0 ⊢
  have hls : lv_has ls 6 [(0, .ref (ad 0 0 0)), (1, .int x1), (2, .int x2), (3, .int x3), (4, .ref ao)] := hl0
  generalize ([.ref (ad 0 0 0), .int x1, .int x2, .int x3, .ref ao] : List Value).toArray = av at hts ⊢
  have hcl : ∀ n, n ≤ 6 → n ≤ (headSpec (.codeWith yL_noise cL_noise 6 (some .int) [(0, 19, 22, 13)] :: zWS) (zrm 90 6 430)).room.cells := fun n h => h
  have hsl : ∀ n, n ≤ 430 → n ≤ (headSpec (.codeWith yL_noise cL_noise 6 (some .int) [(0, 19, 22, 13)] :: zWS) (zrm 90 6 430)).room.slots := fun n h => h
  refine lv_aload hx hb (by decide +kernel : decode cL_noise 0 = .ok (.aload 4, 2)) (lv_at hls 4 rfl) ?_
  refine lv_iconst (v := 0) hx hb (by decide +kernel : decode cL_noise 2 = .ok (.iconst 0, 1)) rfl ?_
  refine lv_aload_n hx hb (by decide +kernel : decode cL_noise 3 = .ok (.aload_n 0, 1)) rfl (lv_at hls 0 rfl) ?_
  refine lv_iload_n hx hb (by decide +kernel : decode cL_noise 4 = .ok (.iload_n 1, 1)) rfl (lv_at hls 1 rfl) ?_
  refine lv_iload_n hx hb (by decide +kernel : decode cL_noise 5 = .ok (.iload_n 2, 1)) rfl (lv_at hls 2 rfl) ?_
  refine lv_iload_n hx hb (by decide +kernel : decode cL_noise 6 = .ok (.iload_n 3, 1)) rfl (lv_at hls 3 rfl) ?_
  have hw := zw_ws_noise
  refine zl_runU (zl_runCU (zl_rV (cn := 0) (i := 0) (n := 3) (vs := [.inl x1, .inl x2, .inl x3]) (rest := [.int 0, .ref ao]) (C := RX4) (zt_X4_noise l hl) hw.1 hw.2 rfl (by decide +kernel) ⟨Nat.le_of_ble_eq_true rfl, Nat.le_of_ble_eq_true rfl⟩ rfl (by decide) (by decide) ⟨hx, hb, hml, hown, hts⟩ hK hE0 hA hS hL hF rfl rfl (Nat.le_of_ble_eq_true rfl) hls.1 (by decide +kernel : decode cL_noise 7 = .ok (.invokevirtual 52, 3)) ⟨hcl _ (by decide), hsl _ (by decide)⟩) hL) hA hS hL (fun vv hvv H1 locs1 ad1 hae hL1 hnw hS1 hk1 => ?_) (fun k hk H1 locs1 q ce hL1 hS1 hk1 h1 h2 h3 => ?_)
  · obtain ⟨val, hval⟩ := zGood_v hgood hvv
    subst hval
    have hO1 := zw_O hO hL hk1 hae hnw
    refine lv_if_eq (tgt := 17) hx hb (by decide +kernel : decode cL_noise 10 = .ok (.ifCond .eq 7, 3)) (by decide) (fun b0 => ?_) (fun b0 => ?_)
    · refine lv_lconst hx hb (by decide +kernel : decode cL_noise 17 = .ok (.lconst 0, 1)) rfl ?_
      have e0 : (0 : Int64) = zBo val := (if_pos b0).symm
      rw [show (Int64.ofNat (((0 : Fin 2)) : Nat)) = (0 : Int64) from rfl, e0]
      exact zw_fin (cv := zBo) (a := 18) (en := 26) hx hb hr hlocks hKJ hL1 hO1 hS1 hae hvv (hcl _ (by decide)) (hsl _ (by decide)) (by decide +kernel : decode cL_noise 18 = .ok (.lastore, 1)) (by decide +kernel : decode cL_noise 19 = .ok (.goto 7, 3)) (by decide) (by decide +kernel : decode cL_noise 26 = .ok (.iconst 0, 1)) (by decide +kernel : decode cL_noise 27 = .ok (.ireturn, 1))
    · refine lv_lconst hx hb (by decide +kernel : decode cL_noise 13 = .ok (.lconst 1, 1)) rfl ?_
      refine lv_goto (tgt := 18) hx hb (by decide +kernel : decode cL_noise 14 = .ok (.goto 4, 3)) (by decide) ?_
      have e0 : (1 : Int64) = zBo val := (if_neg b0).symm
      rw [show (Int64.ofNat (((1 : Fin 2)) : Nat)) = (1 : Int64) from rfl, e0]
      exact zw_fin (cv := zBo) (a := 18) (en := 26) hx hb hr hlocks hKJ hL1 hO1 hS1 hae hvv (hcl _ (by decide)) (hsl _ (by decide)) (by decide +kernel : decode cL_noise 18 = .ok (.lastore, 1)) (by decide +kernel : decode cL_noise 19 = .ok (.goto 7, 3)) (by decide) (by decide +kernel : decode cL_noise 26 = .ok (.iconst 0, 1)) (by decide +kernel : decode cL_noise 27 = .ok (.ireturn, 1))
  · have hO1 := zw_O hO hL hk1 (fun _ _ _ _ => rfl) (fun q _ => Or.inl rfl)
    have hgk := zGood_x hgood hk
    have ek : k = 0 := q_eI_ne hgk
    subst ek
    refine z_catch1 (own := RL) (name := zEx 0) (x := ⟨0, 19, 22, 13⟩) (suf := []) hown htab (by decide) (by decide) (hts (.classLink RL 13 (zEx 0)) (by decide +kernel)) (zE0_cast hE0 0 (by decide)) h1 h2 h3 ?_
    refine lv_astore (lv' := (5, .ref q) :: [(0, .ref (ad 0 0 0)), (1, .int x1), (2, .int x2), (3, .int x3), (4, .ref ao)]) hx hb (by decide +kernel : decode cL_noise 22 = .ok (.astore 5, 2)) hls (by decide) rfl (fun ls hls => ?_)
    refine lv_iconst (v := 1) hx hb (by decide +kernel : decode cL_noise 24 = .ok (.iconst 1, 1)) rfl ?_
    exact zw_exc hx hb hr hlocks hL1 hO1 hS1 hk rfl (hcl _ (by decide)) (hsl _ (by decide)) (by decide +kernel : decode cL_noise 25 = .ok (.ireturn, 1))
theorem zw_ws_differs : (decide (Cond.methodLink RL 56 yX4_differs ∈ zWS) && decide (Cond.instanceMethod yX4_differs ∈ zWS) && decide (Cond.selects RX4 yX4_differs yX4_differs ∈ zWS) && decide (Cond.initialized RX4 ∈ zWS)) = true ∧ Cond.code yX4_differs cX4_differs 2 (some .int) ∈ zWS := ⟨by decide +kernel, by decide +kernel⟩
set_option maxHeartbeats 4000000 in
theorem zw_differs (l : Launch) (hl : l.stackTraces = false) (D : va_G) (ca : Nat → ClassId) (ad : zAD) (A : Nat → Prop) (g : zSG) (ao : Nat) (cJ : ClassId) (f : Nat → Int64) (x1 : Int32) (r : zRR) (hF : zF_X4_differs (.inr (.inl (0, 0, 0)) :: [.inl x1]) g = some r) (hgood : zGood q_eN r.1) : vx_Met l yL_differs (.codeWith yL_differs cL_differs 4 (some .int) [(0, 9, 12, 31)] :: zWS) (zrm 90 6 430) (va_Pc [.ref (ad 0 0 0), .int x1, .ref ao] (zPw D ca ad A g ao cJ f)) (zQw D ca ad A r.2 ao cJ r.1 q_eN Int32.toInt64) (fun _ _ _ => False) 6 430 A := by
  refine vx_ofWH (by decide +kernel) rfl ?_
  intro p e s m args below meth c s₁ B hml hv
  obtain ⟨rfl, hK, hKJ, hL, hO, hA, hE0, hN1, hN2⟩ := hv
  have hx := B.exec
  have hb := B.bytes
  have hr := B.returns
  have hpre := atoms_spec (ws := .codeWith yL_differs cL_differs 4 (some .int) [(0, 9, 12, 31)] :: zWS) B.pre
  have hts : ∀ w ∈ zWS, w.before _ s = true := fun w hw => hpre w (List.mem_cons_of_mem _ hw)
  have htab := vx_table (x := yL_differs) B (hpre _ List.mem_cons_self)
  have hown : s.vm.findClass RL = some m.cls := findClass_of_methodNamed B.named
  have hlocks := B.notSynchronized
  have hS : va_S A s.heap s.heap [] := va_S.rf
  have hl0 := lv_entry ([.ref (ad 0 0 0), .int x1, .ref ao]) (n := 4) (Nat.le_of_ble_eq_true rfl)
  rw [lg_entry_eq]
  generalize (lg_sl ([.ref (ad 0 0 0), .int x1, .ref ao]) ++ List.replicate (4 - (lg_sl ([.ref (ad 0 0 0), .int x1, .ref ao])).length) Slot.unset).toArray = ls at hl0 ⊢
  have hls : lv_has ls 4 [(0, .ref (ad 0 0 0)), (1, .int x1), (2, .ref ao)] := hl0
  generalize ([.ref (ad 0 0 0), .int x1, .ref ao] : List Value).toArray = av at hts ⊢
  have hcl : ∀ n, n ≤ 6 → n ≤ (headSpec (.codeWith yL_differs cL_differs 4 (some .int) [(0, 9, 12, 31)] :: zWS) (zrm 90 6 430)).room.cells := fun n h => h
  have hsl : ∀ n, n ≤ 430 → n ≤ (headSpec (.codeWith yL_differs cL_differs 4 (some .int) [(0, 9, 12, 31)] :: zWS) (zrm 90 6 430)).room.slots := fun n h => h
  refine lv_aload_n hx hb (by decide +kernel : decode cL_differs 0 = .ok (.aload_n 2, 1)) rfl (lv_at hls 2 rfl) ?_
  refine lv_iconst (v := 0) hx hb (by decide +kernel : decode cL_differs 1 = .ok (.iconst 0, 1)) rfl ?_
  refine lv_aload_n hx hb (by decide +kernel : decode cL_differs 2 = .ok (.aload_n 0, 1)) rfl (lv_at hls 0 rfl) ?_
  refine lv_iload_n hx hb (by decide +kernel : decode cL_differs 3 = .ok (.iload_n 1, 1)) rfl (lv_at hls 1 rfl) ?_
  have hw := zw_ws_differs
  refine zl_runU (zl_runCU (zl_rV (cn := 0) (i := 0) (n := 1) (vs := [.inl x1]) (rest := [.int 0, .ref ao]) (C := RX4) (zt_X4_differs l hl) hw.1 hw.2 rfl (by decide +kernel) ⟨Nat.le_of_ble_eq_true rfl, Nat.le_of_ble_eq_true rfl⟩ rfl (by decide) (by decide) ⟨hx, hb, hml, hown, hts⟩ hK hE0 hA hS hL hF rfl rfl (Nat.le_of_ble_eq_true rfl) hls.1 (by decide +kernel : decode cL_differs 4 = .ok (.invokevirtual 56, 3)) ⟨hcl _ (by decide), hsl _ (by decide)⟩) hL) hA hS hL (fun vv hvv H1 locs1 ad1 hae hL1 hnw hS1 hk1 => ?_) (fun k hk H1 locs1 q ce hL1 hS1 hk1 h1 h2 h3 => ?_)
  · obtain ⟨val, hval⟩ := zGood_v hgood hvv
    subst hval
    have hO1 := zw_O hO hL hk1 hae hnw
    refine lv_i2l (v := val.toInt64) hx hb (by decide +kernel : decode cL_differs 7 = .ok (.i2l, 1)) rfl ?_
    exact zw_fin (cv := Int32.toInt64) (a := 8) (en := 15) hx hb hr hlocks hKJ hL1 hO1 hS1 hae hvv (hcl _ (by decide)) (hsl _ (by decide)) (by decide +kernel : decode cL_differs 8 = .ok (.lastore, 1)) (by decide +kernel : decode cL_differs 9 = .ok (.goto 6, 3)) (by decide) (by decide +kernel : decode cL_differs 15 = .ok (.iconst 0, 1)) (by decide +kernel : decode cL_differs 16 = .ok (.ireturn, 1))
  · have hO1 := zw_O hO hL hk1 (fun _ _ _ _ => rfl) (fun q _ => Or.inl rfl)
    have hgk := zGood_x hgood hk
    have ek : k = 2 := q_eN_ne hgk
    subst ek
    refine z_catch1 (own := RL) (name := zEx 2) (x := ⟨0, 9, 12, 31⟩) (suf := []) hown htab (by decide) (by decide) (hts (.classLink RL 31 (zEx 2)) (by decide +kernel)) (zE0_cast hE0 2 (by decide)) h1 h2 h3 ?_
    refine lv_astore_n (lv' := (3, .ref q) :: [(0, .ref (ad 0 0 0)), (1, .int x1), (2, .ref ao)]) hx hb (by decide +kernel : decode cL_differs 12 = .ok (.astore_n 3, 1)) rfl hls (by decide) rfl (fun ls hls => ?_)
    refine lv_iconst (v := 1) hx hb (by decide +kernel : decode cL_differs 13 = .ok (.iconst 1, 1)) rfl ?_
    exact zw_exc hx hb hr hlocks hL1 hO1 hS1 hk rfl (hcl _ (by decide)) (hsl _ (by decide)) (by decide +kernel : decode cL_differs 14 = .ok (.ireturn, 1))
theorem zw_ws_shape : (decide (Cond.methodLink RL 59 yX4_shape ∈ zWS) && decide (Cond.instanceMethod yX4_shape ∈ zWS) && decide (Cond.selects RX4 yX4_shape yX4_shape ∈ zWS) && decide (Cond.initialized RX4 ∈ zWS)) = true ∧ Cond.code yX4_shape cX4_shape 4 (some .int) ∈ zWS := ⟨by decide +kernel, by decide +kernel⟩
set_option maxHeartbeats 4000000 in
theorem zw_shape (l : Launch) (hl : l.stackTraces = false) (D : va_G) (ca : Nat → ClassId) (ad : zAD) (A : Nat → Prop) (g : zSG) (ao : Nat) (cJ : ClassId) (f : Nat → Int64) (x1 x2 : Int32) (r : zRR) (hF : zF_X4_shape (.inr (.inl (0, 0, 0)) :: [.inl x1, .inl x2]) g = some r) (hgood : zGood q_eI r.1) : vx_Met l yL_shape (.codeWith yL_shape cL_shape 5 (some .int) [(0, 10, 13, 13)] :: zWS) (zrm 90 6 430) (va_Pc [.ref (ad 0 0 0), .int x1, .int x2, .ref ao] (zPw D ca ad A g ao cJ f)) (zQw D ca ad A r.2 ao cJ r.1 q_eI Int32.toInt64) (fun _ _ _ => False) 6 430 A := by
  refine vx_ofWH (by decide +kernel) rfl ?_
  intro p e s m args below meth c s₁ B hml hv
  obtain ⟨rfl, hK, hKJ, hL, hO, hA, hE0, hN1, hN2⟩ := hv
  have hx := B.exec
  have hb := B.bytes
  have hr := B.returns
  have hpre := atoms_spec (ws := .codeWith yL_shape cL_shape 5 (some .int) [(0, 10, 13, 13)] :: zWS) B.pre
  have hts : ∀ w ∈ zWS, w.before _ s = true := fun w hw => hpre w (List.mem_cons_of_mem _ hw)
  have htab := vx_table (x := yL_shape) B (hpre _ List.mem_cons_self)
  have hown : s.vm.findClass RL = some m.cls := findClass_of_methodNamed B.named
  have hlocks := B.notSynchronized
  have hS : va_S A s.heap s.heap [] := va_S.rf
  have hl0 := lv_entry ([.ref (ad 0 0 0), .int x1, .int x2, .ref ao]) (n := 5) (Nat.le_of_ble_eq_true rfl)
  rw [lg_entry_eq]
  generalize (lg_sl ([.ref (ad 0 0 0), .int x1, .int x2, .ref ao]) ++ List.replicate (5 - (lg_sl ([.ref (ad 0 0 0), .int x1, .int x2, .ref ao])).length) Slot.unset).toArray = ls at hl0 ⊢
  have hls : lv_has ls 5 [(0, .ref (ad 0 0 0)), (1, .int x1), (2, .int x2), (3, .ref ao)] := hl0
  generalize ([.ref (ad 0 0 0), .int x1, .int x2, .ref ao] : List Value).toArray = av at hts ⊢
  have hcl : ∀ n, n ≤ 6 → n ≤ (headSpec (.codeWith yL_shape cL_shape 5 (some .int) [(0, 10, 13, 13)] :: zWS) (zrm 90 6 430)).room.cells := fun n h => h
  have hsl : ∀ n, n ≤ 430 → n ≤ (headSpec (.codeWith yL_shape cL_shape 5 (some .int) [(0, 10, 13, 13)] :: zWS) (zrm 90 6 430)).room.slots := fun n h => h
  refine lv_aload_n hx hb (by decide +kernel : decode cL_shape 0 = .ok (.aload_n 3, 1)) rfl (lv_at hls 3 rfl) ?_
  refine lv_iconst (v := 0) hx hb (by decide +kernel : decode cL_shape 1 = .ok (.iconst 0, 1)) rfl ?_
  refine lv_aload_n hx hb (by decide +kernel : decode cL_shape 2 = .ok (.aload_n 0, 1)) rfl (lv_at hls 0 rfl) ?_
  refine lv_iload_n hx hb (by decide +kernel : decode cL_shape 3 = .ok (.iload_n 1, 1)) rfl (lv_at hls 1 rfl) ?_
  refine lv_iload_n hx hb (by decide +kernel : decode cL_shape 4 = .ok (.iload_n 2, 1)) rfl (lv_at hls 2 rfl) ?_
  have hw := zw_ws_shape
  refine zl_runU (zl_runCU (zl_rV (cn := 0) (i := 0) (n := 2) (vs := [.inl x1, .inl x2]) (rest := [.int 0, .ref ao]) (C := RX4) (zt_X4_shape l hl) hw.1 hw.2 rfl (by decide +kernel) ⟨Nat.le_of_ble_eq_true rfl, Nat.le_of_ble_eq_true rfl⟩ rfl (by decide) (by decide) ⟨hx, hb, hml, hown, hts⟩ hK hE0 hA hS hL hF rfl rfl (Nat.le_of_ble_eq_true rfl) hls.1 (by decide +kernel : decode cL_shape 5 = .ok (.invokevirtual 59, 3)) ⟨hcl _ (by decide), hsl _ (by decide)⟩) hL) hA hS hL (fun vv hvv H1 locs1 ad1 hae hL1 hnw hS1 hk1 => ?_) (fun k hk H1 locs1 q ce hL1 hS1 hk1 h1 h2 h3 => ?_)
  · obtain ⟨val, hval⟩ := zGood_v hgood hvv
    subst hval
    have hO1 := zw_O hO hL hk1 hae hnw
    refine lv_i2l (v := val.toInt64) hx hb (by decide +kernel : decode cL_shape 8 = .ok (.i2l, 1)) rfl ?_
    exact zw_fin (cv := Int32.toInt64) (a := 9) (en := 17) hx hb hr hlocks hKJ hL1 hO1 hS1 hae hvv (hcl _ (by decide)) (hsl _ (by decide)) (by decide +kernel : decode cL_shape 9 = .ok (.lastore, 1)) (by decide +kernel : decode cL_shape 10 = .ok (.goto 7, 3)) (by decide) (by decide +kernel : decode cL_shape 17 = .ok (.iconst 0, 1)) (by decide +kernel : decode cL_shape 18 = .ok (.ireturn, 1))
  · have hO1 := zw_O hO hL hk1 (fun _ _ _ _ => rfl) (fun q _ => Or.inl rfl)
    have hgk := zGood_x hgood hk
    have ek : k = 0 := q_eI_ne hgk
    subst ek
    refine z_catch1 (own := RL) (name := zEx 0) (x := ⟨0, 10, 13, 13⟩) (suf := []) hown htab (by decide) (by decide) (hts (.classLink RL 13 (zEx 0)) (by decide +kernel)) (zE0_cast hE0 0 (by decide)) h1 h2 h3 ?_
    refine lv_astore (lv' := (4, .ref q) :: [(0, .ref (ad 0 0 0)), (1, .int x1), (2, .int x2), (3, .ref ao)]) hx hb (by decide +kernel : decode cL_shape 13 = .ok (.astore 4, 2)) hls (by decide) rfl (fun ls hls => ?_)
    refine lv_iconst (v := 1) hx hb (by decide +kernel : decode cL_shape 15 = .ok (.iconst 1, 1)) rfl ?_
    exact zw_exc hx hb hr hlocks hL1 hO1 hS1 hk rfl (hcl _ (by decide)) (hsl _ (by decide)) (by decide +kernel : decode cL_shape 16 = .ok (.ireturn, 1))
theorem zw_ws_touch : (decide (Cond.methodLink RL 62 yX4_touch ∈ zWS) && decide (Cond.instanceMethod yX4_touch ∈ zWS) && decide (Cond.selects RX4 yX4_touch yX4_touch ∈ zWS) && decide (Cond.initialized RX4 ∈ zWS)) = true ∧ Cond.code yX4_touch cX4_touch 3 (some .boolean) ∈ zWS := ⟨by decide +kernel, by decide +kernel⟩
set_option maxHeartbeats 4000000 in
theorem zw_touch (l : Launch) (hl : l.stackTraces = false) (D : va_G) (ca : Nat → ClassId) (ad : zAD) (A : Nat → Prop) (g : zSG) (ao : Nat) (cJ : ClassId) (f : Nat → Int64) (x1 x2 : Int32) (r : zRR) (hF : zF_X4_touch (.inr (.inl (0, 0, 0)) :: [.inl x1, .inl x2]) g = some r) (hgood : zGood q_eN r.1) : vx_Met l yL_touch (.codeWith yL_touch cL_touch 5 (some .int) [(0, 17, 20, 31)] :: zWS) (zrm 90 6 430) (va_Pc [.ref (ad 0 0 0), .int x1, .int x2, .ref ao] (zPw D ca ad A g ao cJ f)) (zQw D ca ad A r.2 ao cJ r.1 q_eN zBo) (fun _ _ _ => False) 6 430 A := by
  refine vx_ofWH (by decide +kernel) rfl ?_
  intro p e s m args below meth c s₁ B hml hv
  obtain ⟨rfl, hK, hKJ, hL, hO, hA, hE0, hN1, hN2⟩ := hv
  have hx := B.exec
  have hb := B.bytes
  have hr := B.returns
  have hpre := atoms_spec (ws := .codeWith yL_touch cL_touch 5 (some .int) [(0, 17, 20, 31)] :: zWS) B.pre
  have hts : ∀ w ∈ zWS, w.before _ s = true := fun w hw => hpre w (List.mem_cons_of_mem _ hw)
  have htab := vx_table (x := yL_touch) B (hpre _ List.mem_cons_self)
  have hown : s.vm.findClass RL = some m.cls := findClass_of_methodNamed B.named
  have hlocks := B.notSynchronized
  have hS : va_S A s.heap s.heap [] := va_S.rf
  have hl0 := lv_entry ([.ref (ad 0 0 0), .int x1, .int x2, .ref ao]) (n := 5) (Nat.le_of_ble_eq_true rfl)
  rw [lg_entry_eq]
  generalize (lg_sl ([.ref (ad 0 0 0), .int x1, .int x2, .ref ao]) ++ List.replicate (5 - (lg_sl ([.ref (ad 0 0 0), .int x1, .int x2, .ref ao])).length) Slot.unset).toArray = ls at hl0 ⊢
  have hls : lv_has ls 5 [(0, .ref (ad 0 0 0)), (1, .int x1), (2, .int x2), (3, .ref ao)] := hl0
  generalize ([.ref (ad 0 0 0), .int x1, .int x2, .ref ao] : List Value).toArray = av at hts ⊢
  have hcl : ∀ n, n ≤ 6 → n ≤ (headSpec (.codeWith yL_touch cL_touch 5 (some .int) [(0, 17, 20, 31)] :: zWS) (zrm 90 6 430)).room.cells := fun n h => h
  have hsl : ∀ n, n ≤ 430 → n ≤ (headSpec (.codeWith yL_touch cL_touch 5 (some .int) [(0, 17, 20, 31)] :: zWS) (zrm 90 6 430)).room.slots := fun n h => h
  refine lv_aload_n hx hb (by decide +kernel : decode cL_touch 0 = .ok (.aload_n 3, 1)) rfl (lv_at hls 3 rfl) ?_
  refine lv_iconst (v := 0) hx hb (by decide +kernel : decode cL_touch 1 = .ok (.iconst 0, 1)) rfl ?_
  refine lv_aload_n hx hb (by decide +kernel : decode cL_touch 2 = .ok (.aload_n 0, 1)) rfl (lv_at hls 0 rfl) ?_
  refine lv_iload_n hx hb (by decide +kernel : decode cL_touch 3 = .ok (.iload_n 1, 1)) rfl (lv_at hls 1 rfl) ?_
  refine lv_iload_n hx hb (by decide +kernel : decode cL_touch 4 = .ok (.iload_n 2, 1)) rfl (lv_at hls 2 rfl) ?_
  have hw := zw_ws_touch
  refine zl_runU (zl_runCU (zl_rV (cn := 0) (i := 0) (n := 2) (vs := [.inl x1, .inl x2]) (rest := [.int 0, .ref ao]) (C := RX4) (zt_X4_touch l hl) hw.1 hw.2 rfl (by decide +kernel) ⟨Nat.le_of_ble_eq_true rfl, Nat.le_of_ble_eq_true rfl⟩ rfl (by decide) (by decide) ⟨hx, hb, hml, hown, hts⟩ hK hE0 hA hS hL hF rfl rfl (Nat.le_of_ble_eq_true rfl) hls.1 (by decide +kernel : decode cL_touch 5 = .ok (.invokevirtual 62, 3)) ⟨hcl _ (by decide), hsl _ (by decide)⟩) hL) hA hS hL (fun vv hvv H1 locs1 ad1 hae hL1 hnw hS1 hk1 => ?_) (fun k hk H1 locs1 q ce hL1 hS1 hk1 h1 h2 h3 => ?_)
  · obtain ⟨val, hval⟩ := zGood_v hgood hvv
    subst hval
    have hO1 := zw_O hO hL hk1 hae hnw
    refine lv_if_eq (tgt := 15) hx hb (by decide +kernel : decode cL_touch 8 = .ok (.ifCond .eq 7, 3)) (by decide) (fun b0 => ?_) (fun b0 => ?_)
    · refine lv_lconst hx hb (by decide +kernel : decode cL_touch 15 = .ok (.lconst 0, 1)) rfl ?_
      have e0 : (0 : Int64) = zBo val := (if_pos b0).symm
      rw [show (Int64.ofNat (((0 : Fin 2)) : Nat)) = (0 : Int64) from rfl, e0]
      exact zw_fin (cv := zBo) (a := 16) (en := 24) hx hb hr hlocks hKJ hL1 hO1 hS1 hae hvv (hcl _ (by decide)) (hsl _ (by decide)) (by decide +kernel : decode cL_touch 16 = .ok (.lastore, 1)) (by decide +kernel : decode cL_touch 17 = .ok (.goto 7, 3)) (by decide) (by decide +kernel : decode cL_touch 24 = .ok (.iconst 0, 1)) (by decide +kernel : decode cL_touch 25 = .ok (.ireturn, 1))
    · refine lv_lconst hx hb (by decide +kernel : decode cL_touch 11 = .ok (.lconst 1, 1)) rfl ?_
      refine lv_goto (tgt := 16) hx hb (by decide +kernel : decode cL_touch 12 = .ok (.goto 4, 3)) (by decide) ?_
      have e0 : (1 : Int64) = zBo val := (if_neg b0).symm
      rw [show (Int64.ofNat (((1 : Fin 2)) : Nat)) = (1 : Int64) from rfl, e0]
      exact zw_fin (cv := zBo) (a := 16) (en := 24) hx hb hr hlocks hKJ hL1 hO1 hS1 hae hvv (hcl _ (by decide)) (hsl _ (by decide)) (by decide +kernel : decode cL_touch 16 = .ok (.lastore, 1)) (by decide +kernel : decode cL_touch 17 = .ok (.goto 7, 3)) (by decide) (by decide +kernel : decode cL_touch 24 = .ok (.iconst 0, 1)) (by decide +kernel : decode cL_touch 25 = .ok (.ireturn, 1))
  · have hO1 := zw_O hO hL hk1 (fun _ _ _ _ => rfl) (fun q _ => Or.inl rfl)
    have hgk := zGood_x hgood hk
    have ek : k = 2 := q_eN_ne hgk
    subst ek
    refine z_catch1 (own := RL) (name := zEx 2) (x := ⟨0, 17, 20, 31⟩) (suf := []) hown htab (by decide) (by decide) (hts (.classLink RL 31 (zEx 2)) (by decide +kernel)) (zE0_cast hE0 2 (by decide)) h1 h2 h3 ?_
    refine lv_astore (lv' := (4, .ref q) :: [(0, .ref (ad 0 0 0)), (1, .int x1), (2, .int x2), (3, .ref ao)]) hx hb (by decide +kernel : decode cL_touch 20 = .ok (.astore 4, 2)) hls (by decide) rfl (fun ls hls => ?_)
    refine lv_iconst (v := 1) hx hb (by decide +kernel : decode cL_touch 22 = .ok (.iconst 1, 1)) rfl ?_
    exact zw_exc hx hb hr hlocks hL1 hO1 hS1 hk rfl (hcl _ (by decide)) (hsl _ (by decide)) (by decide +kernel : decode cL_touch 23 = .ok (.ireturn, 1))
theorem zw_ws_free : (decide (Cond.methodLink RL 66 yX4_free ∈ zWS) && decide (Cond.instanceMethod yX4_free ∈ zWS) && decide (Cond.selects RX4 yX4_free yX4_free ∈ zWS) && decide (Cond.initialized RX4 ∈ zWS)) = true ∧ Cond.code yX4_free cX4_free 4 (some .int) ∈ zWS := ⟨by decide +kernel, by decide +kernel⟩
set_option maxHeartbeats 4000000 in
theorem zw_free (l : Launch) (hl : l.stackTraces = false) (D : va_G) (ca : Nat → ClassId) (ad : zAD) (A : Nat → Prop) (g : zSG) (ao : Nat) (cJ : ClassId) (f : Nat → Int64) (x1 : Int32) (r : zRR) (hF : zF_X4_free (.inr (.inl (0, 0, 0)) :: [.inl x1]) g = some r) (hgood : zGood q_eN r.1) : vx_Met l yL_free (.codeWith yL_free cL_free 4 (some .int) [(0, 9, 12, 31)] :: zWS) (zrm 90 6 430) (va_Pc [.ref (ad 0 0 0), .int x1, .ref ao] (zPw D ca ad A g ao cJ f)) (zQw D ca ad A r.2 ao cJ r.1 q_eN Int32.toInt64) (fun _ _ _ => False) 6 430 A := by
  refine vx_ofWH (by decide +kernel) rfl ?_
  intro p e s m args below meth c s₁ B hml hv
  obtain ⟨rfl, hK, hKJ, hL, hO, hA, hE0, hN1, hN2⟩ := hv
  have hx := B.exec
  have hb := B.bytes
  have hr := B.returns
  have hpre := atoms_spec (ws := .codeWith yL_free cL_free 4 (some .int) [(0, 9, 12, 31)] :: zWS) B.pre
  have hts : ∀ w ∈ zWS, w.before _ s = true := fun w hw => hpre w (List.mem_cons_of_mem _ hw)
  have htab := vx_table (x := yL_free) B (hpre _ List.mem_cons_self)
  have hown : s.vm.findClass RL = some m.cls := findClass_of_methodNamed B.named
  have hlocks := B.notSynchronized
  have hS : va_S A s.heap s.heap [] := va_S.rf
  have hl0 := lv_entry ([.ref (ad 0 0 0), .int x1, .ref ao]) (n := 4) (Nat.le_of_ble_eq_true rfl)
  rw [lg_entry_eq]
  generalize (lg_sl ([.ref (ad 0 0 0), .int x1, .ref ao]) ++ List.replicate (4 - (lg_sl ([.ref (ad 0 0 0), .int x1, .ref ao])).length) Slot.unset).toArray = ls at hl0 ⊢
  have hls : lv_has ls 4 [(0, .ref (ad 0 0 0)), (1, .int x1), (2, .ref ao)] := hl0
  generalize ([.ref (ad 0 0 0), .int x1, .ref ao] : List Value).toArray = av at hts ⊢
  have hcl : ∀ n, n ≤ 6 → n ≤ (headSpec (.codeWith yL_free cL_free 4 (some .int) [(0, 9, 12, 31)] :: zWS) (zrm 90 6 430)).room.cells := fun n h => h
  have hsl : ∀ n, n ≤ 430 → n ≤ (headSpec (.codeWith yL_free cL_free 4 (some .int) [(0, 9, 12, 31)] :: zWS) (zrm 90 6 430)).room.slots := fun n h => h
  refine lv_aload_n hx hb (by decide +kernel : decode cL_free 0 = .ok (.aload_n 2, 1)) rfl (lv_at hls 2 rfl) ?_
  refine lv_iconst (v := 0) hx hb (by decide +kernel : decode cL_free 1 = .ok (.iconst 0, 1)) rfl ?_
  refine lv_aload_n hx hb (by decide +kernel : decode cL_free 2 = .ok (.aload_n 0, 1)) rfl (lv_at hls 0 rfl) ?_
  refine lv_iload_n hx hb (by decide +kernel : decode cL_free 3 = .ok (.iload_n 1, 1)) rfl (lv_at hls 1 rfl) ?_
  have hw := zw_ws_free
  refine zl_runU (zl_runCU (zl_rV (cn := 0) (i := 0) (n := 1) (vs := [.inl x1]) (rest := [.int 0, .ref ao]) (C := RX4) (zt_X4_free l hl) hw.1 hw.2 rfl (by decide +kernel) ⟨Nat.le_of_ble_eq_true rfl, Nat.le_of_ble_eq_true rfl⟩ rfl (by decide) (by decide) ⟨hx, hb, hml, hown, hts⟩ hK hE0 hA hS hL hF rfl rfl (Nat.le_of_ble_eq_true rfl) hls.1 (by decide +kernel : decode cL_free 4 = .ok (.invokevirtual 66, 3)) ⟨hcl _ (by decide), hsl _ (by decide)⟩) hL) hA hS hL (fun vv hvv H1 locs1 ad1 hae hL1 hnw hS1 hk1 => ?_) (fun k hk H1 locs1 q ce hL1 hS1 hk1 h1 h2 h3 => ?_)
  · obtain ⟨val, hval⟩ := zGood_v hgood hvv
    subst hval
    have hO1 := zw_O hO hL hk1 hae hnw
    refine lv_i2l (v := val.toInt64) hx hb (by decide +kernel : decode cL_free 7 = .ok (.i2l, 1)) rfl ?_
    exact zw_fin (cv := Int32.toInt64) (a := 8) (en := 15) hx hb hr hlocks hKJ hL1 hO1 hS1 hae hvv (hcl _ (by decide)) (hsl _ (by decide)) (by decide +kernel : decode cL_free 8 = .ok (.lastore, 1)) (by decide +kernel : decode cL_free 9 = .ok (.goto 6, 3)) (by decide) (by decide +kernel : decode cL_free 15 = .ok (.iconst 0, 1)) (by decide +kernel : decode cL_free 16 = .ok (.ireturn, 1))
  · have hO1 := zw_O hO hL hk1 (fun _ _ _ _ => rfl) (fun q _ => Or.inl rfl)
    have hgk := zGood_x hgood hk
    have ek : k = 2 := q_eN_ne hgk
    subst ek
    refine z_catch1 (own := RL) (name := zEx 2) (x := ⟨0, 9, 12, 31⟩) (suf := []) hown htab (by decide) (by decide) (hts (.classLink RL 31 (zEx 2)) (by decide +kernel)) (zE0_cast hE0 2 (by decide)) h1 h2 h3 ?_
    refine lv_astore_n (lv' := (3, .ref q) :: [(0, .ref (ad 0 0 0)), (1, .int x1), (2, .ref ao)]) hx hb (by decide +kernel : decode cL_free 12 = .ok (.astore_n 3, 1)) rfl hls (by decide) rfl (fun ls hls => ?_)
    refine lv_iconst (v := 1) hx hb (by decide +kernel : decode cL_free 13 = .ok (.iconst 1, 1)) rfl ?_
    exact zw_exc hx hb hr hlocks hL1 hO1 hS1 hk rfl (hcl _ (by decide)) (hsl _ (by decide)) (by decide +kernel : decode cL_free 14 = .ok (.ireturn, 1))
theorem zw_ws_small : (decide (Cond.methodLink RL 69 yX4_small ∈ zWS) && decide (Cond.instanceMethod yX4_small ∈ zWS) && decide (Cond.selects RX4 yX4_small yX4_small ∈ zWS) && decide (Cond.initialized RX4 ∈ zWS)) = true ∧ Cond.code yX4_small cX4_small 2 (some .int) ∈ zWS := ⟨by decide +kernel, by decide +kernel⟩
set_option maxHeartbeats 4000000 in
theorem zw_small (l : Launch) (hl : l.stackTraces = false) (D : va_G) (ca : Nat → ClassId) (ad : zAD) (A : Nat → Prop) (g : zSG) (ao : Nat) (cJ : ClassId) (f : Nat → Int64) (x1 : Int32) (r : zRR) (hF : zF_X4_small (.inr (.inl (0, 0, 0)) :: [.inl x1]) g = some r) (hgood : zGood q_eN r.1) : vx_Met l yL_small (.codeWith yL_small cL_small 4 (some .int) [(0, 9, 12, 31)] :: zWS) (zrm 90 6 430) (va_Pc [.ref (ad 0 0 0), .int x1, .ref ao] (zPw D ca ad A g ao cJ f)) (zQw D ca ad A r.2 ao cJ r.1 q_eN Int32.toInt64) (fun _ _ _ => False) 6 430 A := by
  refine vx_ofWH (by decide +kernel) rfl ?_
  intro p e s m args below meth c s₁ B hml hv
  obtain ⟨rfl, hK, hKJ, hL, hO, hA, hE0, hN1, hN2⟩ := hv
  have hx := B.exec
  have hb := B.bytes
  have hr := B.returns
  have hpre := atoms_spec (ws := .codeWith yL_small cL_small 4 (some .int) [(0, 9, 12, 31)] :: zWS) B.pre
  have hts : ∀ w ∈ zWS, w.before _ s = true := fun w hw => hpre w (List.mem_cons_of_mem _ hw)
  have htab := vx_table (x := yL_small) B (hpre _ List.mem_cons_self)
  have hown : s.vm.findClass RL = some m.cls := findClass_of_methodNamed B.named
  have hlocks := B.notSynchronized
  have hS : va_S A s.heap s.heap [] := va_S.rf
  have hl0 := lv_entry ([.ref (ad 0 0 0), .int x1, .ref ao]) (n := 4) (Nat.le_of_ble_eq_true rfl)
  rw [lg_entry_eq]
  generalize (lg_sl ([.ref (ad 0 0 0), .int x1, .ref ao]) ++ List.replicate (4 - (lg_sl ([.ref (ad 0 0 0), .int x1, .ref ao])).length) Slot.unset).toArray = ls at hl0 ⊢
  have hls : lv_has ls 4 [(0, .ref (ad 0 0 0)), (1, .int x1), (2, .ref ao)] := hl0
  generalize ([.ref (ad 0 0 0), .int x1, .ref ao] : List Value).toArray = av at hts ⊢
  have hcl : ∀ n, n ≤ 6 → n ≤ (headSpec (.codeWith yL_small cL_small 4 (some .int) [(0, 9, 12, 31)] :: zWS) (zrm 90 6 430)).room.cells := fun n h => h
  have hsl : ∀ n, n ≤ 430 → n ≤ (headSpec (.codeWith yL_small cL_small 4 (some .int) [(0, 9, 12, 31)] :: zWS) (zrm 90 6 430)).room.slots := fun n h => h
  refine lv_aload_n hx hb (by decide +kernel : decode cL_small 0 = .ok (.aload_n 2, 1)) rfl (lv_at hls 2 rfl) ?_
  refine lv_iconst (v := 0) hx hb (by decide +kernel : decode cL_small 1 = .ok (.iconst 0, 1)) rfl ?_
  refine lv_aload_n hx hb (by decide +kernel : decode cL_small 2 = .ok (.aload_n 0, 1)) rfl (lv_at hls 0 rfl) ?_
  refine lv_iload_n hx hb (by decide +kernel : decode cL_small 3 = .ok (.iload_n 1, 1)) rfl (lv_at hls 1 rfl) ?_
  have hw := zw_ws_small
  refine zl_runU (zl_runCU (zl_rV (cn := 0) (i := 0) (n := 1) (vs := [.inl x1]) (rest := [.int 0, .ref ao]) (C := RX4) (zt_X4_small l hl) hw.1 hw.2 rfl (by decide +kernel) ⟨Nat.le_of_ble_eq_true rfl, Nat.le_of_ble_eq_true rfl⟩ rfl (by decide) (by decide) ⟨hx, hb, hml, hown, hts⟩ hK hE0 hA hS hL hF rfl rfl (Nat.le_of_ble_eq_true rfl) hls.1 (by decide +kernel : decode cL_small 4 = .ok (.invokevirtual 69, 3)) ⟨hcl _ (by decide), hsl _ (by decide)⟩) hL) hA hS hL (fun vv hvv H1 locs1 ad1 hae hL1 hnw hS1 hk1 => ?_) (fun k hk H1 locs1 q ce hL1 hS1 hk1 h1 h2 h3 => ?_)
  · obtain ⟨val, hval⟩ := zGood_v hgood hvv
    subst hval
    have hO1 := zw_O hO hL hk1 hae hnw
    refine lv_i2l (v := val.toInt64) hx hb (by decide +kernel : decode cL_small 7 = .ok (.i2l, 1)) rfl ?_
    exact zw_fin (cv := Int32.toInt64) (a := 8) (en := 15) hx hb hr hlocks hKJ hL1 hO1 hS1 hae hvv (hcl _ (by decide)) (hsl _ (by decide)) (by decide +kernel : decode cL_small 8 = .ok (.lastore, 1)) (by decide +kernel : decode cL_small 9 = .ok (.goto 6, 3)) (by decide) (by decide +kernel : decode cL_small 15 = .ok (.iconst 0, 1)) (by decide +kernel : decode cL_small 16 = .ok (.ireturn, 1))
  · have hO1 := zw_O hO hL hk1 (fun _ _ _ _ => rfl) (fun q _ => Or.inl rfl)
    have hgk := zGood_x hgood hk
    have ek : k = 2 := q_eN_ne hgk
    subst ek
    refine z_catch1 (own := RL) (name := zEx 2) (x := ⟨0, 9, 12, 31⟩) (suf := []) hown htab (by decide) (by decide) (hts (.classLink RL 31 (zEx 2)) (by decide +kernel)) (zE0_cast hE0 2 (by decide)) h1 h2 h3 ?_
    refine lv_astore_n (lv' := (3, .ref q) :: [(0, .ref (ad 0 0 0)), (1, .int x1), (2, .ref ao)]) hx hb (by decide +kernel : decode cL_small 12 = .ok (.astore_n 3, 1)) rfl hls (by decide) rfl (fun ls hls => ?_)
    refine lv_iconst (v := 1) hx hb (by decide +kernel : decode cL_small 13 = .ok (.iconst 1, 1)) rfl ?_
    exact zw_exc hx hb hr hlocks hL1 hO1 hS1 hk rfl (hcl _ (by decide)) (hsl _ (by decide)) (by decide +kernel : decode cL_small 14 = .ok (.ireturn, 1))
theorem zw_ws_smallest : (decide (Cond.methodLink RL 72 yX4_smallest ∈ zWS) && decide (Cond.instanceMethod yX4_smallest ∈ zWS) && decide (Cond.selects RX4 yX4_smallest yX4_smallest ∈ zWS) && decide (Cond.initialized RX4 ∈ zWS)) = true ∧ Cond.code yX4_smallest cX4_smallest 7 (some .int) ∈ zWS := ⟨by decide +kernel, by decide +kernel⟩
set_option maxHeartbeats 4000000 in
theorem zw_smallest (l : Launch) (hl : l.stackTraces = false) (D : va_G) (ca : Nat → ClassId) (ad : zAD) (A : Nat → Prop) (g : zSG) (ao : Nat) (cJ : ClassId) (f : Nat → Int64) (x1 x2 : Int32) (r : zRR) (hF : zF_X4_smallest (.inr (.inl (0, 0, 0)) :: [.inl x1, .inl x2]) g = some r) (hgood : zGood q_eN r.1) : vx_Met l yL_smallest (.codeWith yL_smallest cL_smallest 5 (some .int) [(0, 10, 13, 31)] :: zWS) (zrm 90 6 430) (va_Pc [.ref (ad 0 0 0), .int x1, .int x2, .ref ao] (zPw D ca ad A g ao cJ f)) (zQw D ca ad A r.2 ao cJ r.1 q_eN Int32.toInt64) (fun _ _ _ => False) 6 430 A := by
  refine vx_ofWH (by decide +kernel) rfl ?_
  intro p e s m args below meth c s₁ B hml hv
  obtain ⟨rfl, hK, hKJ, hL, hO, hA, hE0, hN1, hN2⟩ := hv
  have hx := B.exec
  have hb := B.bytes
  have hr := B.returns
  have hpre := atoms_spec (ws := .codeWith yL_smallest cL_smallest 5 (some .int) [(0, 10, 13, 31)] :: zWS) B.pre
  have hts : ∀ w ∈ zWS, w.before _ s = true := fun w hw => hpre w (List.mem_cons_of_mem _ hw)
  have htab := vx_table (x := yL_smallest) B (hpre _ List.mem_cons_self)
  have hown : s.vm.findClass RL = some m.cls := findClass_of_methodNamed B.named
  have hlocks := B.notSynchronized
  have hS : va_S A s.heap s.heap [] := va_S.rf
  have hl0 := lv_entry ([.ref (ad 0 0 0), .int x1, .int x2, .ref ao]) (n := 5) (Nat.le_of_ble_eq_true rfl)
  rw [lg_entry_eq]
  generalize (lg_sl ([.ref (ad 0 0 0), .int x1, .int x2, .ref ao]) ++ List.replicate (5 - (lg_sl ([.ref (ad 0 0 0), .int x1, .int x2, .ref ao])).length) Slot.unset).toArray = ls at hl0 ⊢
  have hls : lv_has ls 5 [(0, .ref (ad 0 0 0)), (1, .int x1), (2, .int x2), (3, .ref ao)] := hl0
  generalize ([.ref (ad 0 0 0), .int x1, .int x2, .ref ao] : List Value).toArray = av at hts ⊢
  have hcl : ∀ n, n ≤ 6 → n ≤ (headSpec (.codeWith yL_smallest cL_smallest 5 (some .int) [(0, 10, 13, 31)] :: zWS) (zrm 90 6 430)).room.cells := fun n h => h
  have hsl : ∀ n, n ≤ 430 → n ≤ (headSpec (.codeWith yL_smallest cL_smallest 5 (some .int) [(0, 10, 13, 31)] :: zWS) (zrm 90 6 430)).room.slots := fun n h => h
  refine lv_aload_n hx hb (by decide +kernel : decode cL_smallest 0 = .ok (.aload_n 3, 1)) rfl (lv_at hls 3 rfl) ?_
  refine lv_iconst (v := 0) hx hb (by decide +kernel : decode cL_smallest 1 = .ok (.iconst 0, 1)) rfl ?_
  refine lv_aload_n hx hb (by decide +kernel : decode cL_smallest 2 = .ok (.aload_n 0, 1)) rfl (lv_at hls 0 rfl) ?_
  refine lv_iload_n hx hb (by decide +kernel : decode cL_smallest 3 = .ok (.iload_n 1, 1)) rfl (lv_at hls 1 rfl) ?_
  refine lv_iload_n hx hb (by decide +kernel : decode cL_smallest 4 = .ok (.iload_n 2, 1)) rfl (lv_at hls 2 rfl) ?_
  have hw := zw_ws_smallest
  refine zl_runU (zl_runCU (zl_rV (cn := 0) (i := 0) (n := 2) (vs := [.inl x1, .inl x2]) (rest := [.int 0, .ref ao]) (C := RX4) (zt_X4_smallest l hl) hw.1 hw.2 rfl (by decide +kernel) ⟨Nat.le_of_ble_eq_true rfl, Nat.le_of_ble_eq_true rfl⟩ rfl (by decide) (by decide) ⟨hx, hb, hml, hown, hts⟩ hK hE0 hA hS hL hF rfl rfl (Nat.le_of_ble_eq_true rfl) hls.1 (by decide +kernel : decode cL_smallest 5 = .ok (.invokevirtual 72, 3)) ⟨hcl _ (by decide), hsl _ (by decide)⟩) hL) hA hS hL (fun vv hvv H1 locs1 ad1 hae hL1 hnw hS1 hk1 => ?_) (fun k hk H1 locs1 q ce hL1 hS1 hk1 h1 h2 h3 => ?_)
  · obtain ⟨val, hval⟩ := zGood_v hgood hvv
    subst hval
    have hO1 := zw_O hO hL hk1 hae hnw
    refine lv_i2l (v := val.toInt64) hx hb (by decide +kernel : decode cL_smallest 8 = .ok (.i2l, 1)) rfl ?_
    exact zw_fin (cv := Int32.toInt64) (a := 9) (en := 17) hx hb hr hlocks hKJ hL1 hO1 hS1 hae hvv (hcl _ (by decide)) (hsl _ (by decide)) (by decide +kernel : decode cL_smallest 9 = .ok (.lastore, 1)) (by decide +kernel : decode cL_smallest 10 = .ok (.goto 7, 3)) (by decide) (by decide +kernel : decode cL_smallest 17 = .ok (.iconst 0, 1)) (by decide +kernel : decode cL_smallest 18 = .ok (.ireturn, 1))
  · have hO1 := zw_O hO hL hk1 (fun _ _ _ _ => rfl) (fun q _ => Or.inl rfl)
    have hgk := zGood_x hgood hk
    have ek : k = 2 := q_eN_ne hgk
    subst ek
    refine z_catch1 (own := RL) (name := zEx 2) (x := ⟨0, 10, 13, 31⟩) (suf := []) hown htab (by decide) (by decide) (hts (.classLink RL 31 (zEx 2)) (by decide +kernel)) (zE0_cast hE0 2 (by decide)) h1 h2 h3 ?_
    refine lv_astore (lv' := (4, .ref q) :: [(0, .ref (ad 0 0 0)), (1, .int x1), (2, .int x2), (3, .ref ao)]) hx hb (by decide +kernel : decode cL_smallest 13 = .ok (.astore 4, 2)) hls (by decide) rfl (fun ls hls => ?_)
    refine lv_iconst (v := 1) hx hb (by decide +kernel : decode cL_smallest 15 = .ok (.iconst 1, 1)) rfl ?_
    exact zw_exc hx hb hr hlocks hL1 hO1 hS1 hk rfl (hcl _ (by decide)) (hsl _ (by decide)) (by decide +kernel : decode cL_smallest 16 = .ok (.ireturn, 1))
theorem zw_ws_lag : (decide (Cond.methodLink RL 75 yX4_lag ∈ zWS) && decide (Cond.instanceMethod yX4_lag ∈ zWS) && decide (Cond.selects RX4 yX4_lag yX4_lag ∈ zWS) && decide (Cond.initialized RX4 ∈ zWS)) = true ∧ Cond.code yX4_lag cX4_lag 11 (some .int) ∈ zWS := ⟨by decide +kernel, by decide +kernel⟩
set_option maxHeartbeats 4000000 in
theorem zw_lag (l : Launch) (hl : l.stackTraces = false) (D : va_G) (ca : Nat → ClassId) (ad : zAD) (A : Nat → Prop) (g : zSG) (ao : Nat) (cJ : ClassId) (f : Nat → Int64) (x1 x2 x3 : Int32) (r : zRR) (hF : zF_X4_lag (.inr (.inl (0, 0, 0)) :: [.inl x1, .inl x2, .inl x3]) g = some r) (hgood : zGood q_eI r.1) : vx_Met l yL_lag (.codeWith yL_lag cL_lag 6 (some .int) [(0, 12, 15, 13)] :: zWS) (zrm 90 6 430) (va_Pc [.ref (ad 0 0 0), .int x1, .int x2, .int x3, .ref ao] (zPw D ca ad A g ao cJ f)) (zQw D ca ad A r.2 ao cJ r.1 q_eI Int32.toInt64) (fun _ _ _ => False) 6 430 A := by
  refine vx_ofWH (by decide +kernel) rfl ?_
  intro p e s m args below meth c s₁ B hml hv
  obtain ⟨rfl, hK, hKJ, hL, hO, hA, hE0, hN1, hN2⟩ := hv
  have hx := B.exec
  have hb := B.bytes
  have hr := B.returns
  have hpre := atoms_spec (ws := .codeWith yL_lag cL_lag 6 (some .int) [(0, 12, 15, 13)] :: zWS) B.pre
  have hts : ∀ w ∈ zWS, w.before _ s = true := fun w hw => hpre w (List.mem_cons_of_mem _ hw)
  have htab := vx_table (x := yL_lag) B (hpre _ List.mem_cons_self)
  have hown : s.vm.findClass RL = some m.cls := findClass_of_methodNamed B.named
  have hlocks := B.notSynchronized
  have hS : va_S A s.heap s.heap [] := va_S.rf
  have hl0 := lv_entry ([.ref (ad 0 0 0), .int x1, .int x2, .int x3, .ref ao]) (n := 6) (Nat.le_of_ble_eq_true rfl)
  rw [lg_entry_eq]
  generalize (lg_sl ([.ref (ad 0 0 0), .int x1, .int x2, .int x3, .ref ao]) ++ List.replicate (6 - (lg_sl ([.ref (ad 0 0 0), .int x1, .int x2, .int x3, .ref ao])).length) Slot.unset).toArray = ls at hl0 ⊢
  have hls : lv_has ls 6 [(0, .ref (ad 0 0 0)), (1, .int x1), (2, .int x2), (3, .int x3), (4, .ref ao)] := hl0
  generalize ([.ref (ad 0 0 0), .int x1, .int x2, .int x3, .ref ao] : List Value).toArray = av at hts ⊢
  have hcl : ∀ n, n ≤ 6 → n ≤ (headSpec (.codeWith yL_lag cL_lag 6 (some .int) [(0, 12, 15, 13)] :: zWS) (zrm 90 6 430)).room.cells := fun n h => h
  have hsl : ∀ n, n ≤ 430 → n ≤ (headSpec (.codeWith yL_lag cL_lag 6 (some .int) [(0, 12, 15, 13)] :: zWS) (zrm 90 6 430)).room.slots := fun n h => h
  refine lv_aload hx hb (by decide +kernel : decode cL_lag 0 = .ok (.aload 4, 2)) (lv_at hls 4 rfl) ?_
  refine lv_iconst (v := 0) hx hb (by decide +kernel : decode cL_lag 2 = .ok (.iconst 0, 1)) rfl ?_
  refine lv_aload_n hx hb (by decide +kernel : decode cL_lag 3 = .ok (.aload_n 0, 1)) rfl (lv_at hls 0 rfl) ?_
  refine lv_iload_n hx hb (by decide +kernel : decode cL_lag 4 = .ok (.iload_n 1, 1)) rfl (lv_at hls 1 rfl) ?_
  refine lv_iload_n hx hb (by decide +kernel : decode cL_lag 5 = .ok (.iload_n 2, 1)) rfl (lv_at hls 2 rfl) ?_
  refine lv_iload_n hx hb (by decide +kernel : decode cL_lag 6 = .ok (.iload_n 3, 1)) rfl (lv_at hls 3 rfl) ?_
  have hw := zw_ws_lag
  refine zl_runU (zl_runCU (zl_rV (cn := 0) (i := 0) (n := 3) (vs := [.inl x1, .inl x2, .inl x3]) (rest := [.int 0, .ref ao]) (C := RX4) (zt_X4_lag l hl) hw.1 hw.2 rfl (by decide +kernel) ⟨Nat.le_of_ble_eq_true rfl, Nat.le_of_ble_eq_true rfl⟩ rfl (by decide) (by decide) ⟨hx, hb, hml, hown, hts⟩ hK hE0 hA hS hL hF rfl rfl (Nat.le_of_ble_eq_true rfl) hls.1 (by decide +kernel : decode cL_lag 7 = .ok (.invokevirtual 75, 3)) ⟨hcl _ (by decide), hsl _ (by decide)⟩) hL) hA hS hL (fun vv hvv H1 locs1 ad1 hae hL1 hnw hS1 hk1 => ?_) (fun k hk H1 locs1 q ce hL1 hS1 hk1 h1 h2 h3 => ?_)
  · obtain ⟨val, hval⟩ := zGood_v hgood hvv
    subst hval
    have hO1 := zw_O hO hL hk1 hae hnw
    refine lv_i2l (v := val.toInt64) hx hb (by decide +kernel : decode cL_lag 10 = .ok (.i2l, 1)) rfl ?_
    exact zw_fin (cv := Int32.toInt64) (a := 11) (en := 19) hx hb hr hlocks hKJ hL1 hO1 hS1 hae hvv (hcl _ (by decide)) (hsl _ (by decide)) (by decide +kernel : decode cL_lag 11 = .ok (.lastore, 1)) (by decide +kernel : decode cL_lag 12 = .ok (.goto 7, 3)) (by decide) (by decide +kernel : decode cL_lag 19 = .ok (.iconst 0, 1)) (by decide +kernel : decode cL_lag 20 = .ok (.ireturn, 1))
  · have hO1 := zw_O hO hL hk1 (fun _ _ _ _ => rfl) (fun q _ => Or.inl rfl)
    have hgk := zGood_x hgood hk
    have ek : k = 0 := q_eI_ne hgk
    subst ek
    refine z_catch1 (own := RL) (name := zEx 0) (x := ⟨0, 12, 15, 13⟩) (suf := []) hown htab (by decide) (by decide) (hts (.classLink RL 13 (zEx 0)) (by decide +kernel)) (zE0_cast hE0 0 (by decide)) h1 h2 h3 ?_
    refine lv_astore (lv' := (5, .ref q) :: [(0, .ref (ad 0 0 0)), (1, .int x1), (2, .int x2), (3, .int x3), (4, .ref ao)]) hx hb (by decide +kernel : decode cL_lag 15 = .ok (.astore 5, 2)) hls (by decide) rfl (fun ls hls => ?_)
    refine lv_iconst (v := 1) hx hb (by decide +kernel : decode cL_lag 17 = .ok (.iconst 1, 1)) rfl ?_
    exact zw_exc hx hb hr hlocks hL1 hO1 hS1 hk rfl (hcl _ (by decide)) (hsl _ (by decide)) (by decide +kernel : decode cL_lag 18 = .ok (.ireturn, 1))
