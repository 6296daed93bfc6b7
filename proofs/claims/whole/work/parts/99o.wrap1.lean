/-! ===== the wrappers of the law ===== -/
theorem zw_ws_text : (decide (Cond.methodLink RL 7 yX4_text ∈ zWS) && decide (Cond.instanceMethod yX4_text ∈ zWS) && decide (Cond.selects RX4 yX4_text yX4_text ∈ zWS) && decide (Cond.initialized RX4 ∈ zWS)) = true ∧ Cond.code yX4_text cX4_text 5 (some .int) ∈ zWS := ⟨by decide +kernel, by decide +kernel⟩
set_option maxHeartbeats 4000000 in
theorem zw_text (l : Launch) (hl : l.stackTraces = false) (D : va_G) (ca : Nat → ClassId) (ad : zAD) (A : Nat → Prop) (g : zSG) (ao : Nat) (cJ : ClassId) (f : Nat → Int64) (x1 x2 x3 : Int32) (r : zRR) (hF : zX_text (.inr (.inl (0, 0, 0)) :: [.inl x1, .inl x2, .inl x3]) g = some r) (hgood : zGood q_eI r.1) : vx_Met l yL_text (.codeWith yL_text cL_text 6 (some .int) [(0, 12, 15, 13)] :: zWS) (zrm 90 6 430) (va_Pc [.ref (ad 0 0 0), .int x1, .int x2, .int x3, .ref ao] (zPw D ca ad A g ao cJ f)) (zQw D ca ad A r.2 ao cJ r.1 q_eI Int32.toInt64) (fun _ _ _ => False) 6 430 A := by
  refine vx_ofWH (by decide +kernel) rfl ?_
  intro p e s m args below meth c s₁ B hml hv
  obtain ⟨rfl, hK, hKJ, hL, hO, hA, hE0, hN1, hN2⟩ := hv
  have hx := B.exec
  have hb := B.bytes
  have hr := B.returns
  have hpre := atoms_spec (ws := .codeWith yL_text cL_text 6 (some .int) [(0, 12, 15, 13)] :: zWS) B.pre
  have hts : ∀ w ∈ zWS, w.before _ s = true := fun w hw => hpre w (List.mem_cons_of_mem _ hw)
  have htab := vx_table (x := yL_text) B (hpre _ List.mem_cons_self)
  have hown : s.vm.findClass RL = some m.cls := findClass_of_methodNamed B.named
  have hlocks := B.notSynchronized
  have hS : va_S A s.heap s.heap [] := va_S.rf
  have hl0 := lv_entry ([.ref (ad 0 0 0), .int x1, .int x2, .int x3, .ref ao]) (n := 6) (Nat.le_of_ble_eq_true rfl)
  rw [lg_entry_eq]
  generalize (lg_sl ([.ref (ad 0 0 0), .int x1, .int x2, .int x3, .ref ao]) ++ List.replicate (6 - (lg_sl ([.ref (ad 0 0 0), .int x1, .int x2, .int x3, .ref ao])).length) Slot.unset).toArray = ls at hl0 ⊢
  have hls : lv_has ls 6 [(0, .ref (ad 0 0 0)), (1, .int x1), (2, .int x2), (3, .int x3), (4, .ref ao)] := hl0
  generalize ([.ref (ad 0 0 0), .int x1, .int x2, .int x3, .ref ao] : List Value).toArray = av at hts ⊢
  have hcl : ∀ n, n ≤ 6 → n ≤ (headSpec (.codeWith yL_text cL_text 6 (some .int) [(0, 12, 15, 13)] :: zWS) (zrm 90 6 430)).room.cells := fun n h => h
  have hsl : ∀ n, n ≤ 430 → n ≤ (headSpec (.codeWith yL_text cL_text 6 (some .int) [(0, 12, 15, 13)] :: zWS) (zrm 90 6 430)).room.slots := fun n h => h
  refine lv_aload hx hb (by decide +kernel : decode cL_text 0 = .ok (.aload 4, 2)) (lv_at hls 4 rfl) ?_
  refine lv_iconst (v := 0) hx hb (by decide +kernel : decode cL_text 2 = .ok (.iconst 0, 1)) rfl ?_
  refine lv_aload_n hx hb (by decide +kernel : decode cL_text 3 = .ok (.aload_n 0, 1)) rfl (lv_at hls 0 rfl) ?_
  refine lv_iload_n hx hb (by decide +kernel : decode cL_text 4 = .ok (.iload_n 1, 1)) rfl (lv_at hls 1 rfl) ?_
  refine lv_iload_n hx hb (by decide +kernel : decode cL_text 5 = .ok (.iload_n 2, 1)) rfl (lv_at hls 2 rfl) ?_
  refine lv_iload_n hx hb (by decide +kernel : decode cL_text 6 = .ok (.iload_n 3, 1)) rfl (lv_at hls 3 rfl) ?_
  have hw := zw_ws_text
  refine zl_runU (zl_rT (rest := [.int 0, .ref ao]) (zt_X4_text l hl) hw.1 hw.2 ⟨Nat.le_of_ble_eq_true rfl, Nat.le_of_ble_eq_true rfl⟩ ⟨hx, hb, hml, hown, hts⟩ hK hE0 hA hS hL hF rfl (Nat.le_of_ble_eq_true rfl) hls.1 (by decide +kernel : decode cL_text 7 = .ok (.invokevirtual 7, 3)) ⟨hcl _ (by decide), hsl _ (by decide)⟩) hA hS hL (fun vv hvv H1 locs1 ad1 hae hL1 hnw hS1 hk1 => ?_) (fun k hk H1 locs1 q ce hL1 hS1 hk1 h1 h2 h3 => ?_)
  · obtain ⟨val, hval⟩ := zGood_v hgood hvv
    subst hval
    have hO1 := zw_O hO hL hk1 hae hnw
    refine lv_i2l (v := val.toInt64) hx hb (by decide +kernel : decode cL_text 10 = .ok (.i2l, 1)) rfl ?_
    exact zw_fin (cv := Int32.toInt64) (a := 11) (en := 19) hx hb hr hlocks hKJ hL1 hO1 hS1 hae hvv (hcl _ (by decide)) (hsl _ (by decide)) (by decide +kernel : decode cL_text 11 = .ok (.lastore, 1)) (by decide +kernel : decode cL_text 12 = .ok (.goto 7, 3)) (by decide) (by decide +kernel : decode cL_text 19 = .ok (.iconst 0, 1)) (by decide +kernel : decode cL_text 20 = .ok (.ireturn, 1))
  · have hO1 := zw_O hO hL hk1 (fun _ _ _ _ => rfl) (fun q _ => Or.inl rfl)
    have hgk := zGood_x hgood hk
    have ek : k = 0 := q_eI_ne hgk
    subst ek
    refine z_catch1 (own := RL) (name := zEx 0) (x := ⟨0, 12, 15, 13⟩) (suf := []) hown htab (by decide) (by decide) (hts (.classLink RL 13 (zEx 0)) (by decide +kernel)) (zE0_cast hE0 0 (by decide)) h1 h2 h3 ?_
    refine lv_astore (lv' := (5, .ref q) :: [(0, .ref (ad 0 0 0)), (1, .int x1), (2, .int x2), (3, .int x3), (4, .ref ao)]) hx hb (by decide +kernel : decode cL_text 15 = .ok (.astore 5, 2)) hls (by decide) rfl (fun ls hls => ?_)
    refine lv_iconst (v := 1) hx hb (by decide +kernel : decode cL_text 17 = .ok (.iconst 1, 1)) rfl ?_
    exact zw_exc hx hb hr hlocks hL1 hO1 hS1 hk rfl (hcl _ (by decide)) (hsl _ (by decide)) (by decide +kernel : decode cL_text 18 = .ok (.ireturn, 1))
theorem zw_ws_begin : (decide (Cond.methodLink RL 15 yX4_begin ∈ zWS) && decide (Cond.instanceMethod yX4_begin ∈ zWS) && decide (Cond.selects RX4 yX4_begin yX4_begin ∈ zWS) && decide (Cond.initialized RX4 ∈ zWS)) = true ∧ Cond.code yX4_begin cX4_begin 4 (some .int) ∈ zWS := ⟨by decide +kernel, by decide +kernel⟩
set_option maxHeartbeats 4000000 in
theorem zw_begin (l : Launch) (hl : l.stackTraces = false) (D : va_G) (ca : Nat → ClassId) (ad : zAD) (A : Nat → Prop) (g : zSG) (ao : Nat) (cJ : ClassId) (f : Nat → Int64) (x1 x2 : Int32) (r : zRR) (hF : zF_X4_begin (.inr (.inl (0, 0, 0)) :: [.inl x1, .inl x2]) g = some r) (hgood : zGood q_eX r.1) : vx_Met l yL_begin (.codeWith yL_begin cL_begin 5 (some .int) [(0, 10, 13, 19)] :: zWS) (zrm 90 6 430) (va_Pc [.ref (ad 0 0 0), .int x1, .int x2, .ref ao] (zPw D ca ad A g ao cJ f)) (zQw D ca ad A r.2 ao cJ r.1 q_eX Int32.toInt64) (fun _ _ _ => False) 6 430 A := by
  refine vx_ofWH (by decide +kernel) rfl ?_
  intro p e s m args below meth c s₁ B hml hv
  obtain ⟨rfl, hK, hKJ, hL, hO, hA, hE0, hN1, hN2⟩ := hv
  have hx := B.exec
  have hb := B.bytes
  have hr := B.returns
  have hpre := atoms_spec (ws := .codeWith yL_begin cL_begin 5 (some .int) [(0, 10, 13, 19)] :: zWS) B.pre
  have hts : ∀ w ∈ zWS, w.before _ s = true := fun w hw => hpre w (List.mem_cons_of_mem _ hw)
  have htab := vx_table (x := yL_begin) B (hpre _ List.mem_cons_self)
  have hown : s.vm.findClass RL = some m.cls := findClass_of_methodNamed B.named
  have hlocks := B.notSynchronized
  have hS : va_S A s.heap s.heap [] := va_S.rf
  have hl0 := lv_entry ([.ref (ad 0 0 0), .int x1, .int x2, .ref ao]) (n := 5) (Nat.le_of_ble_eq_true rfl)
  rw [lg_entry_eq]
  generalize (lg_sl ([.ref (ad 0 0 0), .int x1, .int x2, .ref ao]) ++ List.replicate (5 - (lg_sl ([.ref (ad 0 0 0), .int x1, .int x2, .ref ao])).length) Slot.unset).toArray = ls at hl0 ⊢
  have hls : lv_has ls 5 [(0, .ref (ad 0 0 0)), (1, .int x1), (2, .int x2), (3, .ref ao)] := hl0
  generalize ([.ref (ad 0 0 0), .int x1, .int x2, .ref ao] : List Value).toArray = av at hts ⊢
  have hcl : ∀ n, n ≤ 6 → n ≤ (headSpec (.codeWith yL_begin cL_begin 5 (some .int) [(0, 10, 13, 19)] :: zWS) (zrm 90 6 430)).room.cells := fun n h => h
  have hsl : ∀ n, n ≤ 430 → n ≤ (headSpec (.codeWith yL_begin cL_begin 5 (some .int) [(0, 10, 13, 19)] :: zWS) (zrm 90 6 430)).room.slots := fun n h => h
  refine lv_aload_n hx hb (by decide +kernel : decode cL_begin 0 = .ok (.aload_n 3, 1)) rfl (lv_at hls 3 rfl) ?_
  refine lv_iconst (v := 0) hx hb (by decide +kernel : decode cL_begin 1 = .ok (.iconst 0, 1)) rfl ?_
  refine lv_aload_n hx hb (by decide +kernel : decode cL_begin 2 = .ok (.aload_n 0, 1)) rfl (lv_at hls 0 rfl) ?_
  refine lv_iload_n hx hb (by decide +kernel : decode cL_begin 3 = .ok (.iload_n 1, 1)) rfl (lv_at hls 1 rfl) ?_
  refine lv_iload_n hx hb (by decide +kernel : decode cL_begin 4 = .ok (.iload_n 2, 1)) rfl (lv_at hls 2 rfl) ?_
  have hw := zw_ws_begin
  refine zl_runU (zl_runCU (zl_rV (cn := 0) (i := 0) (n := 2) (vs := [.inl x1, .inl x2]) (rest := [.int 0, .ref ao]) (C := RX4) (zt_X4_begin l hl) hw.1 hw.2 rfl (by decide +kernel) ⟨Nat.le_of_ble_eq_true rfl, Nat.le_of_ble_eq_true rfl⟩ rfl (by decide) (by decide) ⟨hx, hb, hml, hown, hts⟩ hK hE0 hA hS hL hF rfl rfl (Nat.le_of_ble_eq_true rfl) hls.1 (by decide +kernel : decode cL_begin 5 = .ok (.invokevirtual 15, 3)) ⟨hcl _ (by decide), hsl _ (by decide)⟩) hL) hA hS hL (fun vv hvv H1 locs1 ad1 hae hL1 hnw hS1 hk1 => ?_) (fun k hk H1 locs1 q ce hL1 hS1 hk1 h1 h2 h3 => ?_)
  · obtain ⟨val, hval⟩ := zGood_v hgood hvv
    subst hval
    have hO1 := zw_O hO hL hk1 hae hnw
    refine lv_i2l (v := val.toInt64) hx hb (by decide +kernel : decode cL_begin 8 = .ok (.i2l, 1)) rfl ?_
    exact zw_fin (cv := Int32.toInt64) (a := 9) (en := 17) hx hb hr hlocks hKJ hL1 hO1 hS1 hae hvv (hcl _ (by decide)) (hsl _ (by decide)) (by decide +kernel : decode cL_begin 9 = .ok (.lastore, 1)) (by decide +kernel : decode cL_begin 10 = .ok (.goto 7, 3)) (by decide) (by decide +kernel : decode cL_begin 17 = .ok (.iconst 0, 1)) (by decide +kernel : decode cL_begin 18 = .ok (.ireturn, 1))
  · have hO1 := zw_O hO hL hk1 (fun _ _ _ _ => rfl) (fun q _ => Or.inl rfl)
    have hgk := zGood_x hgood hk
    have ek : k = 1 := q_eX_ne hgk
    subst ek
    refine z_catch1 (own := RL) (name := zEx 1) (x := ⟨0, 10, 13, 19⟩) (suf := []) hown htab (by decide) (by decide) (hts (.classLink RL 19 (zEx 1)) (by decide +kernel)) (zE0_cast hE0 1 (by decide)) h1 h2 h3 ?_
    refine lv_astore (lv' := (4, .ref q) :: [(0, .ref (ad 0 0 0)), (1, .int x1), (2, .int x2), (3, .ref ao)]) hx hb (by decide +kernel : decode cL_begin 13 = .ok (.astore 4, 2)) hls (by decide) rfl (fun ls hls => ?_)
    refine lv_iconst (v := 1) hx hb (by decide +kernel : decode cL_begin 15 = .ok (.iconst 1, 1)) rfl ?_
    exact zw_exc hx hb hr hlocks hL1 hO1 hS1 hk rfl (hcl _ (by decide)) (hsl _ (by decide)) (by decide +kernel : decode cL_begin 16 = .ok (.ireturn, 1))
theorem zw_ws_keep : (decide (Cond.methodLink RL 21 yX4_keep ∈ zWS) && decide (Cond.instanceMethod yX4_keep ∈ zWS) && decide (Cond.selects RX4 yX4_keep yX4_keep ∈ zWS) && decide (Cond.initialized RX4 ∈ zWS)) = true ∧ Cond.code yX4_keep cX4_keep 4 (some .int) ∈ zWS := ⟨by decide +kernel, by decide +kernel⟩
set_option maxHeartbeats 4000000 in
theorem zw_keep (l : Launch) (hl : l.stackTraces = false) (D : va_G) (ca : Nat → ClassId) (ad : zAD) (A : Nat → Prop) (g : zSG) (ao : Nat) (cJ : ClassId) (f : Nat → Int64) (x1 x2 : Int32) (r : zRR) (hF : zF_X4_keep (.inr (.inl (0, 0, 0)) :: [.inl x1, .inl x2]) g = some r) (hgood : zGood q_eX r.1) : vx_Met l yL_keep (.codeWith yL_keep cL_keep 5 (some .int) [(0, 10, 13, 19)] :: zWS) (zrm 90 6 430) (va_Pc [.ref (ad 0 0 0), .int x1, .int x2, .ref ao] (zPw D ca ad A g ao cJ f)) (zQw D ca ad A r.2 ao cJ r.1 q_eX Int32.toInt64) (fun _ _ _ => False) 6 430 A := by
  refine vx_ofWH (by decide +kernel) rfl ?_
  intro p e s m args below meth c s₁ B hml hv
  obtain ⟨rfl, hK, hKJ, hL, hO, hA, hE0, hN1, hN2⟩ := hv
  have hx := B.exec
  have hb := B.bytes
  have hr := B.returns
  have hpre := atoms_spec (ws := .codeWith yL_keep cL_keep 5 (some .int) [(0, 10, 13, 19)] :: zWS) B.pre
  have hts : ∀ w ∈ zWS, w.before _ s = true := fun w hw => hpre w (List.mem_cons_of_mem _ hw)
  have htab := vx_table (x := yL_keep) B (hpre _ List.mem_cons_self)
  have hown : s.vm.findClass RL = some m.cls := findClass_of_methodNamed B.named
  have hlocks := B.notSynchronized
  have hS : va_S A s.heap s.heap [] := va_S.rf
  have hl0 := lv_entry ([.ref (ad 0 0 0), .int x1, .int x2, .ref ao]) (n := 5) (Nat.le_of_ble_eq_true rfl)
  rw [lg_entry_eq]
  generalize (lg_sl ([.ref (ad 0 0 0), .int x1, .int x2, .ref ao]) ++ List.replicate (5 - (lg_sl ([.ref (ad 0 0 0), .int x1, .int x2, .ref ao])).length) Slot.unset).toArray = ls at hl0 ⊢
  have hls : lv_has ls 5 [(0, .ref (ad 0 0 0)), (1, .int x1), (2, .int x2), (3, .ref ao)] := hl0
  generalize ([.ref (ad 0 0 0), .int x1, .int x2, .ref ao] : List Value).toArray = av at hts ⊢
  have hcl : ∀ n, n ≤ 6 → n ≤ (headSpec (.codeWith yL_keep cL_keep 5 (some .int) [(0, 10, 13, 19)] :: zWS) (zrm 90 6 430)).room.cells := fun n h => h
  have hsl : ∀ n, n ≤ 430 → n ≤ (headSpec (.codeWith yL_keep cL_keep 5 (some .int) [(0, 10, 13, 19)] :: zWS) (zrm 90 6 430)).room.slots := fun n h => h
  refine lv_aload_n hx hb (by decide +kernel : decode cL_keep 0 = .ok (.aload_n 3, 1)) rfl (lv_at hls 3 rfl) ?_
  refine lv_iconst (v := 0) hx hb (by decide +kernel : decode cL_keep 1 = .ok (.iconst 0, 1)) rfl ?_
  refine lv_aload_n hx hb (by decide +kernel : decode cL_keep 2 = .ok (.aload_n 0, 1)) rfl (lv_at hls 0 rfl) ?_
  refine lv_iload_n hx hb (by decide +kernel : decode cL_keep 3 = .ok (.iload_n 1, 1)) rfl (lv_at hls 1 rfl) ?_
  refine lv_iload_n hx hb (by decide +kernel : decode cL_keep 4 = .ok (.iload_n 2, 1)) rfl (lv_at hls 2 rfl) ?_
  have hw := zw_ws_keep
  refine zl_runU (zl_runCU (zl_rV (cn := 0) (i := 0) (n := 2) (vs := [.inl x1, .inl x2]) (rest := [.int 0, .ref ao]) (C := RX4) (zt_X4_keep l hl) hw.1 hw.2 rfl (by decide +kernel) ⟨Nat.le_of_ble_eq_true rfl, Nat.le_of_ble_eq_true rfl⟩ rfl (by decide) (by decide) ⟨hx, hb, hml, hown, hts⟩ hK hE0 hA hS hL hF rfl rfl (Nat.le_of_ble_eq_true rfl) hls.1 (by decide +kernel : decode cL_keep 5 = .ok (.invokevirtual 21, 3)) ⟨hcl _ (by decide), hsl _ (by decide)⟩) hL) hA hS hL (fun vv hvv H1 locs1 ad1 hae hL1 hnw hS1 hk1 => ?_) (fun k hk H1 locs1 q ce hL1 hS1 hk1 h1 h2 h3 => ?_)
  · obtain ⟨val, hval⟩ := zGood_v hgood hvv
    subst hval
    have hO1 := zw_O hO hL hk1 hae hnw
    refine lv_i2l (v := val.toInt64) hx hb (by decide +kernel : decode cL_keep 8 = .ok (.i2l, 1)) rfl ?_
    exact zw_fin (cv := Int32.toInt64) (a := 9) (en := 17) hx hb hr hlocks hKJ hL1 hO1 hS1 hae hvv (hcl _ (by decide)) (hsl _ (by decide)) (by decide +kernel : decode cL_keep 9 = .ok (.lastore, 1)) (by decide +kernel : decode cL_keep 10 = .ok (.goto 7, 3)) (by decide) (by decide +kernel : decode cL_keep 17 = .ok (.iconst 0, 1)) (by decide +kernel : decode cL_keep 18 = .ok (.ireturn, 1))
  · have hO1 := zw_O hO hL hk1 (fun _ _ _ _ => rfl) (fun q _ => Or.inl rfl)
    have hgk := zGood_x hgood hk
    have ek : k = 1 := q_eX_ne hgk
    subst ek
    refine z_catch1 (own := RL) (name := zEx 1) (x := ⟨0, 10, 13, 19⟩) (suf := []) hown htab (by decide) (by decide) (hts (.classLink RL 19 (zEx 1)) (by decide +kernel)) (zE0_cast hE0 1 (by decide)) h1 h2 h3 ?_
    refine lv_astore (lv' := (4, .ref q) :: [(0, .ref (ad 0 0 0)), (1, .int x1), (2, .int x2), (3, .ref ao)]) hx hb (by decide +kernel : decode cL_keep 13 = .ok (.astore 4, 2)) hls (by decide) rfl (fun ls hls => ?_)
    refine lv_iconst (v := 1) hx hb (by decide +kernel : decode cL_keep 15 = .ok (.iconst 1, 1)) rfl ?_
    exact zw_exc hx hb hr hlocks hL1 hO1 hS1 hk rfl (hcl _ (by decide)) (hsl _ (by decide)) (by decide +kernel : decode cL_keep 16 = .ok (.ireturn, 1))
theorem zw_ws_ask : (decide (Cond.methodLink RL 24 yX4_ask ∈ zWS) && decide (Cond.instanceMethod yX4_ask ∈ zWS) && decide (Cond.selects RX4 yX4_ask yX4_ask ∈ zWS) && decide (Cond.initialized RX4 ∈ zWS)) = true ∧ Cond.code yX4_ask cX4_ask 5 (some .int) ∈ zWS := ⟨by decide +kernel, by decide +kernel⟩
set_option maxHeartbeats 4000000 in
theorem zw_ask (l : Launch) (hl : l.stackTraces = false) (D : va_G) (ca : Nat → ClassId) (ad : zAD) (A : Nat → Prop) (g : zSG) (ao : Nat) (cJ : ClassId) (f : Nat → Int64) (x1 x2 x3 x4 : Int32) (r : zRR) (hF : zF_X4_ask (.inr (.inl (0, 0, 0)) :: [.inl x1, .inl x2, .inl x3, .inl x4]) g = some r) (hgood : zGood q_eI r.1) : vx_Met l yL_ask (.codeWith yL_ask cL_ask 7 (some .int) [(0, 14, 17, 13)] :: zWS) (zrm 90 6 430) (va_Pc [.ref (ad 0 0 0), .int x1, .int x2, .int x3, .int x4, .ref ao] (zPw D ca ad A g ao cJ f)) (zQw D ca ad A r.2 ao cJ r.1 q_eI Int32.toInt64) (fun _ _ _ => False) 6 430 A := by
  refine vx_ofWH (by decide +kernel) rfl ?_
  intro p e s m args below meth c s₁ B hml hv
  obtain ⟨rfl, hK, hKJ, hL, hO, hA, hE0, hN1, hN2⟩ := hv
  have hx := B.exec
  have hb := B.bytes
  have hr := B.returns
  have hpre := atoms_spec (ws := .codeWith yL_ask cL_ask 7 (some .int) [(0, 14, 17, 13)] :: zWS) B.pre
  have hts : ∀ w ∈ zWS, w.before _ s = true := fun w hw => hpre w (List.mem_cons_of_mem _ hw)
  have htab := vx_table (x := yL_ask) B (hpre _ List.mem_cons_self)
  have hown : s.vm.findClass RL = some m.cls := findClass_of_methodNamed B.named
  have hlocks := B.notSynchronized
  have hS : va_S A s.heap s.heap [] := va_S.rf
  have hl0 := lv_entry ([.ref (ad 0 0 0), .int x1, .int x2, .int x3, .int x4, .ref ao]) (n := 7) (Nat.le_of_ble_eq_true rfl)
  rw [lg_entry_eq]
  generalize (lg_sl ([.ref (ad 0 0 0), .int x1, .int x2, .int x3, .int x4, .ref ao]) ++ List.replicate (7 - (lg_sl ([.ref (ad 0 0 0), .int x1, .int x2, .int x3, .int x4, .ref ao])).length) Slot.unset).toArray = ls at hl0 ⊢
  have hls : lv_has ls 7 [(0, .ref (ad 0 0 0)), (1, .int x1), (2, .int x2), (3, .int x3), (4, .int x4), (5, .ref ao)] := hl0
  generalize ([.ref (ad 0 0 0), .int x1, .int x2, .int x3, .int x4, .ref ao] : List Value).toArray = av at hts ⊢
  have hcl : ∀ n, n ≤ 6 → n ≤ (headSpec (.codeWith yL_ask cL_ask 7 (some .int) [(0, 14, 17, 13)] :: zWS) (zrm 90 6 430)).room.cells := fun n h => h
  have hsl : ∀ n, n ≤ 430 → n ≤ (headSpec (.codeWith yL_ask cL_ask 7 (some .int) [(0, 14, 17, 13)] :: zWS) (zrm 90 6 430)).room.slots := fun n h => h
  refine lv_aload hx hb (by decide +kernel : decode cL_ask 0 = .ok (.aload 5, 2)) (lv_at hls 5 rfl) ?_
  refine lv_iconst (v := 0) hx hb (by decide +kernel : decode cL_ask 2 = .ok (.iconst 0, 1)) rfl ?_
  refine lv_aload_n hx hb (by decide +kernel : decode cL_ask 3 = .ok (.aload_n 0, 1)) rfl (lv_at hls 0 rfl) ?_
  refine lv_iload_n hx hb (by decide +kernel : decode cL_ask 4 = .ok (.iload_n 1, 1)) rfl (lv_at hls 1 rfl) ?_
  refine lv_iload_n hx hb (by decide +kernel : decode cL_ask 5 = .ok (.iload_n 2, 1)) rfl (lv_at hls 2 rfl) ?_
  refine lv_iload_n hx hb (by decide +kernel : decode cL_ask 6 = .ok (.iload_n 3, 1)) rfl (lv_at hls 3 rfl) ?_
  refine lv_iload hx hb (by decide +kernel : decode cL_ask 7 = .ok (.iload 4, 2)) (lv_at hls 4 rfl) ?_
  have hw := zw_ws_ask
  refine zl_runU (zl_runCU (zl_rV (cn := 0) (i := 0) (n := 4) (vs := [.inl x1, .inl x2, .inl x3, .inl x4]) (rest := [.int 0, .ref ao]) (C := RX4) (zt_X4_ask l hl) hw.1 hw.2 rfl (by decide +kernel) ⟨Nat.le_of_ble_eq_true rfl, Nat.le_of_ble_eq_true rfl⟩ rfl (by decide) (by decide) ⟨hx, hb, hml, hown, hts⟩ hK hE0 hA hS hL hF rfl rfl (Nat.le_of_ble_eq_true rfl) hls.1 (by decide +kernel : decode cL_ask 9 = .ok (.invokevirtual 24, 3)) ⟨hcl _ (by decide), hsl _ (by decide)⟩) hL) hA hS hL (fun vv hvv H1 locs1 ad1 hae hL1 hnw hS1 hk1 => ?_) (fun k hk H1 locs1 q ce hL1 hS1 hk1 h1 h2 h3 => ?_)
  · obtain ⟨val, hval⟩ := zGood_v hgood hvv
    subst hval
    have hO1 := zw_O hO hL hk1 hae hnw
    refine lv_i2l (v := val.toInt64) hx hb (by decide +kernel : decode cL_ask 12 = .ok (.i2l, 1)) rfl ?_
    exact zw_fin (cv := Int32.toInt64) (a := 13) (en := 21) hx hb hr hlocks hKJ hL1 hO1 hS1 hae hvv (hcl _ (by decide)) (hsl _ (by decide)) (by decide +kernel : decode cL_ask 13 = .ok (.lastore, 1)) (by decide +kernel : decode cL_ask 14 = .ok (.goto 7, 3)) (by decide) (by decide +kernel : decode cL_ask 21 = .ok (.iconst 0, 1)) (by decide +kernel : decode cL_ask 22 = .ok (.ireturn, 1))
  · have hO1 := zw_O hO hL hk1 (fun _ _ _ _ => rfl) (fun q _ => Or.inl rfl)
    have hgk := zGood_x hgood hk
    have ek : k = 0 := q_eI_ne hgk
    subst ek
    refine z_catch1 (own := RL) (name := zEx 0) (x := ⟨0, 14, 17, 13⟩) (suf := []) hown htab (by decide) (by decide) (hts (.classLink RL 13 (zEx 0)) (by decide +kernel)) (zE0_cast hE0 0 (by decide)) h1 h2 h3 ?_
    refine lv_astore (lv' := (6, .ref q) :: [(0, .ref (ad 0 0 0)), (1, .int x1), (2, .int x2), (3, .int x3), (4, .int x4), (5, .ref ao)]) hx hb (by decide +kernel : decode cL_ask 17 = .ok (.astore 6, 2)) hls (by decide) rfl (fun ls hls => ?_)
    refine lv_iconst (v := 1) hx hb (by decide +kernel : decode cL_ask 19 = .ok (.iconst 1, 1)) rfl ?_
    exact zw_exc hx hb hr hlocks hL1 hO1 hS1 hk rfl (hcl _ (by decide)) (hsl _ (by decide)) (by decide +kernel : decode cL_ask 20 = .ok (.ireturn, 1))
theorem zw_ws_caused : (decide (Cond.methodLink RL 28 yX4_caused ∈ zWS) && decide (Cond.instanceMethod yX4_caused ∈ zWS) && decide (Cond.selects RX4 yX4_caused yX4_caused ∈ zWS) && decide (Cond.initialized RX4 ∈ zWS)) = true ∧ Cond.code yX4_caused cX4_caused 4 (some .int) ∈ zWS := ⟨by decide +kernel, by decide +kernel⟩
set_option maxHeartbeats 4000000 in
theorem zw_caused (l : Launch) (hl : l.stackTraces = false) (D : va_G) (ca : Nat → ClassId) (ad : zAD) (A : Nat → Prop) (g : zSG) (ao : Nat) (cJ : ClassId) (f : Nat → Int64) (x1 x2 x3 : Int32) (r : zRR) (hF : zF_X4_caused (.inr (.inl (0, 0, 0)) :: [.inl x1, .inl x2, .inl x3]) g = some r) (hgood : zGood q_eNI r.1) : vx_Met l yL_caused (.codeWith yL_caused cL_caused 6 (some .int) [(0, 12, 15, 31), (0, 12, 19, 13)] :: zWS) (zrm 90 6 430) (va_Pc [.ref (ad 0 0 0), .int x1, .int x2, .int x3, .ref ao] (zPw D ca ad A g ao cJ f)) (zQw D ca ad A r.2 ao cJ r.1 q_eNI Int32.toInt64) (fun _ _ _ => False) 6 430 A := by
  refine vx_ofWH (by decide +kernel) rfl ?_
  intro p e s m args below meth c s₁ B hml hv
  obtain ⟨rfl, hK, hKJ, hL, hO, hA, hE0, hN1, hN2⟩ := hv
  have hx := B.exec
  have hb := B.bytes
  have hr := B.returns
  have hpre := atoms_spec (ws := .codeWith yL_caused cL_caused 6 (some .int) [(0, 12, 15, 31), (0, 12, 19, 13)] :: zWS) B.pre
  have hts : ∀ w ∈ zWS, w.before _ s = true := fun w hw => hpre w (List.mem_cons_of_mem _ hw)
  have htab := vx_table (x := yL_caused) B (hpre _ List.mem_cons_self)
  have hown : s.vm.findClass RL = some m.cls := findClass_of_methodNamed B.named
  have hlocks := B.notSynchronized
  have hS : va_S A s.heap s.heap [] := va_S.rf
  have hl0 := lv_entry ([.ref (ad 0 0 0), .int x1, .int x2, .int x3, .ref ao]) (n := 6) (Nat.le_of_ble_eq_true rfl)
  rw [lg_entry_eq]
  generalize (lg_sl ([.ref (ad 0 0 0), .int x1, .int x2, .int x3, .ref ao]) ++ List.replicate (6 - (lg_sl ([.ref (ad 0 0 0), .int x1, .int x2, .int x3, .ref ao])).length) Slot.unset).toArray = ls at hl0 ⊢
  have hls : lv_has ls 6 [(0, .ref (ad 0 0 0)), (1, .int x1), (2, .int x2), (3, .int x3), (4, .ref ao)] := hl0
  generalize ([.ref (ad 0 0 0), .int x1, .int x2, .int x3, .ref ao] : List Value).toArray = av at hts ⊢
  have hcl : ∀ n, n ≤ 6 → n ≤ (headSpec (.codeWith yL_caused cL_caused 6 (some .int) [(0, 12, 15, 31), (0, 12, 19, 13)] :: zWS) (zrm 90 6 430)).room.cells := fun n h => h
  have hsl : ∀ n, n ≤ 430 → n ≤ (headSpec (.codeWith yL_caused cL_caused 6 (some .int) [(0, 12, 15, 31), (0, 12, 19, 13)] :: zWS) (zrm 90 6 430)).room.slots := fun n h => h
  refine lv_aload hx hb (by decide +kernel : decode cL_caused 0 = .ok (.aload 4, 2)) (lv_at hls 4 rfl) ?_
  refine lv_iconst (v := 0) hx hb (by decide +kernel : decode cL_caused 2 = .ok (.iconst 0, 1)) rfl ?_
  refine lv_aload_n hx hb (by decide +kernel : decode cL_caused 3 = .ok (.aload_n 0, 1)) rfl (lv_at hls 0 rfl) ?_
  refine lv_iload_n hx hb (by decide +kernel : decode cL_caused 4 = .ok (.iload_n 1, 1)) rfl (lv_at hls 1 rfl) ?_
  refine lv_iload_n hx hb (by decide +kernel : decode cL_caused 5 = .ok (.iload_n 2, 1)) rfl (lv_at hls 2 rfl) ?_
  refine lv_iload_n hx hb (by decide +kernel : decode cL_caused 6 = .ok (.iload_n 3, 1)) rfl (lv_at hls 3 rfl) ?_
  have hw := zw_ws_caused
  refine zl_runU (zl_runCU (zl_rV (cn := 0) (i := 0) (n := 3) (vs := [.inl x1, .inl x2, .inl x3]) (rest := [.int 0, .ref ao]) (C := RX4) (zt_X4_caused l hl) hw.1 hw.2 rfl (by decide +kernel) ⟨Nat.le_of_ble_eq_true rfl, Nat.le_of_ble_eq_true rfl⟩ rfl (by decide) (by decide) ⟨hx, hb, hml, hown, hts⟩ hK hE0 hA hS hL hF rfl rfl (Nat.le_of_ble_eq_true rfl) hls.1 (by decide +kernel : decode cL_caused 7 = .ok (.invokevirtual 28, 3)) ⟨hcl _ (by decide), hsl _ (by decide)⟩) hL) hA hS hL (fun vv hvv H1 locs1 ad1 hae hL1 hnw hS1 hk1 => ?_) (fun k hk H1 locs1 q ce hL1 hS1 hk1 h1 h2 h3 => ?_)
  · obtain ⟨val, hval⟩ := zGood_v hgood hvv
    subst hval
    have hO1 := zw_O hO hL hk1 hae hnw
    refine lv_i2l (v := val.toInt64) hx hb (by decide +kernel : decode cL_caused 10 = .ok (.i2l, 1)) rfl ?_
    exact zw_fin (cv := Int32.toInt64) (a := 11) (en := 23) hx hb hr hlocks hKJ hL1 hO1 hS1 hae hvv (hcl _ (by decide)) (hsl _ (by decide)) (by decide +kernel : decode cL_caused 11 = .ok (.lastore, 1)) (by decide +kernel : decode cL_caused 12 = .ok (.goto 11, 3)) (by decide) (by decide +kernel : decode cL_caused 23 = .ok (.iconst 0, 1)) (by decide +kernel : decode cL_caused 24 = .ok (.ireturn, 1))
  · have hO1 := zw_O hO hL hk1 (fun _ _ _ _ => rfl) (fun q _ => Or.inl rfl)
    have hgk := zGood_x hgood hk
    rcases q_eNI_ne hgk with ek | ek
    · subst ek
      refine z_catch1 (own := RL) (name := zEx 2) (x := ⟨0, 12, 15, 31⟩) (suf := [⟨0, 12, 19, 13⟩]) hown htab (by decide) (by decide) (hts (.classLink RL 31 (zEx 2)) (by decide +kernel)) (zE0_cast hE0 2 (by decide)) h1 h2 h3 ?_
      refine lv_astore (lv' := (5, .ref q) :: [(0, .ref (ad 0 0 0)), (1, .int x1), (2, .int x2), (3, .int x3), (4, .ref ao)]) hx hb (by decide +kernel : decode cL_caused 15 = .ok (.astore 5, 2)) hls (by decide) rfl (fun ls hls => ?_)
      refine lv_iconst (v := 1) hx hb (by decide +kernel : decode cL_caused 17 = .ok (.iconst 1, 1)) rfl ?_
      exact zw_exc hx hb hr hlocks hL1 hO1 hS1 hk rfl (hcl _ (by decide)) (hsl _ (by decide)) (by decide +kernel : decode cL_caused 18 = .ok (.ireturn, 1))
    · subst ek
      refine z_catch2 (own := RL) (name := zEx 0) (name1 := zEx 2) (y := ⟨0, 12, 15, 31⟩) (x := ⟨0, 12, 19, 13⟩) (suf := []) hown htab (by decide) (by decide) (hts (.classLink RL 31 (zEx 2)) (by decide +kernel)) hN1 (by decide) (by decide) (hts (.classLink RL 13 (zEx 0)) (by decide +kernel)) (zE0_cast hE0 0 (by decide)) h1 h2 h3 ?_
      refine lv_astore (lv' := (5, .ref q) :: [(0, .ref (ad 0 0 0)), (1, .int x1), (2, .int x2), (3, .int x3), (4, .ref ao)]) hx hb (by decide +kernel : decode cL_caused 19 = .ok (.astore 5, 2)) hls (by decide) rfl (fun ls hls => ?_)
      refine lv_iconst (v := 2) hx hb (by decide +kernel : decode cL_caused 21 = .ok (.iconst 2, 1)) rfl ?_
      exact zw_exc hx hb hr hlocks hL1 hO1 hS1 hk rfl (hcl _ (by decide)) (hsl _ (by decide)) (by decide +kernel : decode cL_caused 22 = .ok (.ireturn, 1))
theorem zw_ws_fields : (decide (Cond.methodLink RL 33 yX4_fields ∈ zWS) && decide (Cond.instanceMethod yX4_fields ∈ zWS) && decide (Cond.selects RX4 yX4_fields yX4_fields ∈ zWS) && decide (Cond.initialized RX4 ∈ zWS)) = true ∧ Cond.code yX4_fields cX4_fields 3 (some .int) ∈ zWS := ⟨by decide +kernel, by decide +kernel⟩
set_option maxHeartbeats 4000000 in
theorem zw_fields (l : Launch) (hl : l.stackTraces = false) (D : va_G) (ca : Nat → ClassId) (ad : zAD) (A : Nat → Prop) (g : zSG) (ao : Nat) (cJ : ClassId) (f : Nat → Int64) (x1 x2 : Int32) (r : zRR) (hF : zF_X4_fields (.inr (.inl (0, 0, 0)) :: [.inl x1, .inl x2]) g = some r) (hgood : zGood q_eNI r.1) : vx_Met l yL_fields (.codeWith yL_fields cL_fields 5 (some .int) [(0, 10, 13, 31), (0, 10, 17, 13)] :: zWS) (zrm 90 6 430) (va_Pc [.ref (ad 0 0 0), .int x1, .int x2, .ref ao] (zPw D ca ad A g ao cJ f)) (zQw D ca ad A r.2 ao cJ r.1 q_eNI Int32.toInt64) (fun _ _ _ => False) 6 430 A := by
  refine vx_ofWH (by decide +kernel) rfl ?_
  intro p e s m args below meth c s₁ B hml hv
  obtain ⟨rfl, hK, hKJ, hL, hO, hA, hE0, hN1, hN2⟩ := hv
  have hx := B.exec
  have hb := B.bytes
  have hr := B.returns
  have hpre := atoms_spec (ws := .codeWith yL_fields cL_fields 5 (some .int) [(0, 10, 13, 31), (0, 10, 17, 13)] :: zWS) B.pre
  have hts : ∀ w ∈ zWS, w.before _ s = true := fun w hw => hpre w (List.mem_cons_of_mem _ hw)
  have htab := vx_table (x := yL_fields) B (hpre _ List.mem_cons_self)
  have hown : s.vm.findClass RL = some m.cls := findClass_of_methodNamed B.named
  have hlocks := B.notSynchronized
  have hS : va_S A s.heap s.heap [] := va_S.rf
  have hl0 := lv_entry ([.ref (ad 0 0 0), .int x1, .int x2, .ref ao]) (n := 5) (Nat.le_of_ble_eq_true rfl)
  rw [lg_entry_eq]
  generalize (lg_sl ([.ref (ad 0 0 0), .int x1, .int x2, .ref ao]) ++ List.replicate (5 - (lg_sl ([.ref (ad 0 0 0), .int x1, .int x2, .ref ao])).length) Slot.unset).toArray = ls at hl0 ⊢
  have hls : lv_has ls 5 [(0, .ref (ad 0 0 0)), (1, .int x1), (2, .int x2), (3, .ref ao)] := hl0
  generalize ([.ref (ad 0 0 0), .int x1, .int x2, .ref ao] : List Value).toArray = av at hts ⊢
  have hcl : ∀ n, n ≤ 6 → n ≤ (headSpec (.codeWith yL_fields cL_fields 5 (some .int) [(0, 10, 13, 31), (0, 10, 17, 13)] :: zWS) (zrm 90 6 430)).room.cells := fun n h => h
  have hsl : ∀ n, n ≤ 430 → n ≤ (headSpec (.codeWith yL_fields cL_fields 5 (some .int) [(0, 10, 13, 31), (0, 10, 17, 13)] :: zWS) (zrm 90 6 430)).room.slots := fun n h => h
  refine lv_aload_n hx hb (by decide +kernel : decode cL_fields 0 = .ok (.aload_n 3, 1)) rfl (lv_at hls 3 rfl) ?_
  refine lv_iconst (v := 0) hx hb (by decide +kernel : decode cL_fields 1 = .ok (.iconst 0, 1)) rfl ?_
  refine lv_aload_n hx hb (by decide +kernel : decode cL_fields 2 = .ok (.aload_n 0, 1)) rfl (lv_at hls 0 rfl) ?_
  refine lv_iload_n hx hb (by decide +kernel : decode cL_fields 3 = .ok (.iload_n 1, 1)) rfl (lv_at hls 1 rfl) ?_
  refine lv_iload_n hx hb (by decide +kernel : decode cL_fields 4 = .ok (.iload_n 2, 1)) rfl (lv_at hls 2 rfl) ?_
  have hw := zw_ws_fields
  refine zl_runU (zl_runCU (zl_rV (cn := 0) (i := 0) (n := 2) (vs := [.inl x1, .inl x2]) (rest := [.int 0, .ref ao]) (C := RX4) (zt_X4_fields l hl) hw.1 hw.2 rfl (by decide +kernel) ⟨Nat.le_of_ble_eq_true rfl, Nat.le_of_ble_eq_true rfl⟩ rfl (by decide) (by decide) ⟨hx, hb, hml, hown, hts⟩ hK hE0 hA hS hL hF rfl rfl (Nat.le_of_ble_eq_true rfl) hls.1 (by decide +kernel : decode cL_fields 5 = .ok (.invokevirtual 33, 3)) ⟨hcl _ (by decide), hsl _ (by decide)⟩) hL) hA hS hL (fun vv hvv H1 locs1 ad1 hae hL1 hnw hS1 hk1 => ?_) (fun k hk H1 locs1 q ce hL1 hS1 hk1 h1 h2 h3 => ?_)
  · obtain ⟨val, hval⟩ := zGood_v hgood hvv
    subst hval
    have hO1 := zw_O hO hL hk1 hae hnw
    refine lv_i2l (v := val.toInt64) hx hb (by decide +kernel : decode cL_fields 8 = .ok (.i2l, 1)) rfl ?_
    exact zw_fin (cv := Int32.toInt64) (a := 9) (en := 21) hx hb hr hlocks hKJ hL1 hO1 hS1 hae hvv (hcl _ (by decide)) (hsl _ (by decide)) (by decide +kernel : decode cL_fields 9 = .ok (.lastore, 1)) (by decide +kernel : decode cL_fields 10 = .ok (.goto 11, 3)) (by decide) (by decide +kernel : decode cL_fields 21 = .ok (.iconst 0, 1)) (by decide +kernel : decode cL_fields 22 = .ok (.ireturn, 1))
  · have hO1 := zw_O hO hL hk1 (fun _ _ _ _ => rfl) (fun q _ => Or.inl rfl)
    have hgk := zGood_x hgood hk
    rcases q_eNI_ne hgk with ek | ek
    · subst ek
      refine z_catch1 (own := RL) (name := zEx 2) (x := ⟨0, 10, 13, 31⟩) (suf := [⟨0, 10, 17, 13⟩]) hown htab (by decide) (by decide) (hts (.classLink RL 31 (zEx 2)) (by decide +kernel)) (zE0_cast hE0 2 (by decide)) h1 h2 h3 ?_
      refine lv_astore (lv' := (4, .ref q) :: [(0, .ref (ad 0 0 0)), (1, .int x1), (2, .int x2), (3, .ref ao)]) hx hb (by decide +kernel : decode cL_fields 13 = .ok (.astore 4, 2)) hls (by decide) rfl (fun ls hls => ?_)
      refine lv_iconst (v := 1) hx hb (by decide +kernel : decode cL_fields 15 = .ok (.iconst 1, 1)) rfl ?_
      exact zw_exc hx hb hr hlocks hL1 hO1 hS1 hk rfl (hcl _ (by decide)) (hsl _ (by decide)) (by decide +kernel : decode cL_fields 16 = .ok (.ireturn, 1))
    · subst ek
      refine z_catch2 (own := RL) (name := zEx 0) (name1 := zEx 2) (y := ⟨0, 10, 13, 31⟩) (x := ⟨0, 10, 17, 13⟩) (suf := []) hown htab (by decide) (by decide) (hts (.classLink RL 31 (zEx 2)) (by decide +kernel)) hN1 (by decide) (by decide) (hts (.classLink RL 13 (zEx 0)) (by decide +kernel)) (zE0_cast hE0 0 (by decide)) h1 h2 h3 ?_
      refine lv_astore (lv' := (4, .ref q) :: [(0, .ref (ad 0 0 0)), (1, .int x1), (2, .int x2), (3, .ref ao)]) hx hb (by decide +kernel : decode cL_fields 17 = .ok (.astore 4, 2)) hls (by decide) rfl (fun ls hls => ?_)
      refine lv_iconst (v := 2) hx hb (by decide +kernel : decode cL_fields 19 = .ok (.iconst 2, 1)) rfl ?_
      exact zw_exc hx hb hr hlocks hL1 hO1 hS1 hk rfl (hcl _ (by decide)) (hsl _ (by decide)) (by decide +kernel : decode cL_fields 20 = .ok (.ireturn, 1))
theorem zw_ws_field : (decide (Cond.methodLink RL 36 yX4_field ∈ zWS) && decide (Cond.instanceMethod yX4_field ∈ zWS) && decide (Cond.selects RX4 yX4_field yX4_field ∈ zWS) && decide (Cond.initialized RX4 ∈ zWS)) = true ∧ Cond.code yX4_field cX4_field 5 (some .int) ∈ zWS := ⟨by decide +kernel, by decide +kernel⟩
set_option maxHeartbeats 4000000 in
theorem zw_field (l : Launch) (hl : l.stackTraces = false) (D : va_G) (ca : Nat → ClassId) (ad : zAD) (A : Nat → Prop) (g : zSG) (ao : Nat) (cJ : ClassId) (f : Nat → Int64) (x1 x2 x3 : Int32) (r : zRR) (hF : zF_X4_field (.inr (.inl (0, 0, 0)) :: [.inl x1, .inl x2, .inl x3]) g = some r) (hgood : zGood q_eNI r.1) : vx_Met l yL_field (.codeWith yL_field cL_field 6 (some .int) [(0, 12, 15, 31), (0, 12, 19, 13)] :: zWS) (zrm 90 6 430) (va_Pc [.ref (ad 0 0 0), .int x1, .int x2, .int x3, .ref ao] (zPw D ca ad A g ao cJ f)) (zQw D ca ad A r.2 ao cJ r.1 q_eNI Int32.toInt64) (fun _ _ _ => False) 6 430 A := by
  refine vx_ofWH (by decide +kernel) rfl ?_
  intro p e s m args below meth c s₁ B hml hv
  obtain ⟨rfl, hK, hKJ, hL, hO, hA, hE0, hN1, hN2⟩ := hv
  have hx := B.exec
  have hb := B.bytes
  have hr := B.returns
  have hpre := atoms_spec (ws := .codeWith yL_field cL_field 6 (some .int) [(0, 12, 15, 31), (0, 12, 19, 13)] :: zWS) B.pre
  have hts : ∀ w ∈ zWS, w.before _ s = true := fun w hw => hpre w (List.mem_cons_of_mem _ hw)
  have htab := vx_table (x := yL_field) B (hpre _ List.mem_cons_self)
  have hown : s.vm.findClass RL = some m.cls := findClass_of_methodNamed B.named
  have hlocks := B.notSynchronized
  have hS : va_S A s.heap s.heap [] := va_S.rf
  have hl0 := lv_entry ([.ref (ad 0 0 0), .int x1, .int x2, .int x3, .ref ao]) (n := 6) (Nat.le_of_ble_eq_true rfl)
  rw [lg_entry_eq]
  generalize (lg_sl ([.ref (ad 0 0 0), .int x1, .int x2, .int x3, .ref ao]) ++ List.replicate (6 - (lg_sl ([.ref (ad 0 0 0), .int x1, .int x2, .int x3, .ref ao])).length) Slot.unset).toArray = ls at hl0 ⊢
  have hls : lv_has ls 6 [(0, .ref (ad 0 0 0)), (1, .int x1), (2, .int x2), (3, .int x3), (4, .ref ao)] := hl0
  generalize ([.ref (ad 0 0 0), .int x1, .int x2, .int x3, .ref ao] : List Value).toArray = av at hts ⊢
  have hcl : ∀ n, n ≤ 6 → n ≤ (headSpec (.codeWith yL_field cL_field 6 (some .int) [(0, 12, 15, 31), (0, 12, 19, 13)] :: zWS) (zrm 90 6 430)).room.cells := fun n h => h
  have hsl : ∀ n, n ≤ 430 → n ≤ (headSpec (.codeWith yL_field cL_field 6 (some .int) [(0, 12, 15, 31), (0, 12, 19, 13)] :: zWS) (zrm 90 6 430)).room.slots := fun n h => h
  refine lv_aload hx hb (by decide +kernel : decode cL_field 0 = .ok (.aload 4, 2)) (lv_at hls 4 rfl) ?_
  refine lv_iconst (v := 0) hx hb (by decide +kernel : decode cL_field 2 = .ok (.iconst 0, 1)) rfl ?_
  refine lv_aload_n hx hb (by decide +kernel : decode cL_field 3 = .ok (.aload_n 0, 1)) rfl (lv_at hls 0 rfl) ?_
  refine lv_iload_n hx hb (by decide +kernel : decode cL_field 4 = .ok (.iload_n 1, 1)) rfl (lv_at hls 1 rfl) ?_
  refine lv_iload_n hx hb (by decide +kernel : decode cL_field 5 = .ok (.iload_n 2, 1)) rfl (lv_at hls 2 rfl) ?_
  refine lv_iload_n hx hb (by decide +kernel : decode cL_field 6 = .ok (.iload_n 3, 1)) rfl (lv_at hls 3 rfl) ?_
  have hw := zw_ws_field
  refine zl_runU (zl_runCU (zl_rV (cn := 0) (i := 0) (n := 3) (vs := [.inl x1, .inl x2, .inl x3]) (rest := [.int 0, .ref ao]) (C := RX4) (zt_X4_field l hl) hw.1 hw.2 rfl (by decide +kernel) ⟨Nat.le_of_ble_eq_true rfl, Nat.le_of_ble_eq_true rfl⟩ rfl (by decide) (by decide) ⟨hx, hb, hml, hown, hts⟩ hK hE0 hA hS hL hF rfl rfl (Nat.le_of_ble_eq_true rfl) hls.1 (by decide +kernel : decode cL_field 7 = .ok (.invokevirtual 36, 3)) ⟨hcl _ (by decide), hsl _ (by decide)⟩) hL) hA hS hL (fun vv hvv H1 locs1 ad1 hae hL1 hnw hS1 hk1 => ?_) (fun k hk H1 locs1 q ce hL1 hS1 hk1 h1 h2 h3 => ?_)
  · obtain ⟨val, hval⟩ := zGood_v hgood hvv
    subst hval
    have hO1 := zw_O hO hL hk1 hae hnw
    refine lv_i2l (v := val.toInt64) hx hb (by decide +kernel : decode cL_field 10 = .ok (.i2l, 1)) rfl ?_
    exact zw_fin (cv := Int32.toInt64) (a := 11) (en := 23) hx hb hr hlocks hKJ hL1 hO1 hS1 hae hvv (hcl _ (by decide)) (hsl _ (by decide)) (by decide +kernel : decode cL_field 11 = .ok (.lastore, 1)) (by decide +kernel : decode cL_field 12 = .ok (.goto 11, 3)) (by decide) (by decide +kernel : decode cL_field 23 = .ok (.iconst 0, 1)) (by decide +kernel : decode cL_field 24 = .ok (.ireturn, 1))
  · have hO1 := zw_O hO hL hk1 (fun _ _ _ _ => rfl) (fun q _ => Or.inl rfl)
    have hgk := zGood_x hgood hk
    rcases q_eNI_ne hgk with ek | ek
    · subst ek
      refine z_catch1 (own := RL) (name := zEx 2) (x := ⟨0, 12, 15, 31⟩) (suf := [⟨0, 12, 19, 13⟩]) hown htab (by decide) (by decide) (hts (.classLink RL 31 (zEx 2)) (by decide +kernel)) (zE0_cast hE0 2 (by decide)) h1 h2 h3 ?_
      refine lv_astore (lv' := (5, .ref q) :: [(0, .ref (ad 0 0 0)), (1, .int x1), (2, .int x2), (3, .int x3), (4, .ref ao)]) hx hb (by decide +kernel : decode cL_field 15 = .ok (.astore 5, 2)) hls (by decide) rfl (fun ls hls => ?_)
      refine lv_iconst (v := 1) hx hb (by decide +kernel : decode cL_field 17 = .ok (.iconst 1, 1)) rfl ?_
      exact zw_exc hx hb hr hlocks hL1 hO1 hS1 hk rfl (hcl _ (by decide)) (hsl _ (by decide)) (by decide +kernel : decode cL_field 18 = .ok (.ireturn, 1))
    · subst ek
      refine z_catch2 (own := RL) (name := zEx 0) (name1 := zEx 2) (y := ⟨0, 12, 15, 31⟩) (x := ⟨0, 12, 19, 13⟩) (suf := []) hown htab (by decide) (by decide) (hts (.classLink RL 31 (zEx 2)) (by decide +kernel)) hN1 (by decide) (by decide) (hts (.classLink RL 13 (zEx 0)) (by decide +kernel)) (zE0_cast hE0 0 (by decide)) h1 h2 h3 ?_
      refine lv_astore (lv' := (5, .ref q) :: [(0, .ref (ad 0 0 0)), (1, .int x1), (2, .int x2), (3, .int x3), (4, .ref ao)]) hx hb (by decide +kernel : decode cL_field 19 = .ok (.astore 5, 2)) hls (by decide) rfl (fun ls hls => ?_)
      refine lv_iconst (v := 2) hx hb (by decide +kernel : decode cL_field 21 = .ok (.iconst 2, 1)) rfl ?_
      exact zw_exc hx hb hr hlocks hL1 hO1 hS1 hk rfl (hcl _ (by decide)) (hsl _ (by decide)) (by decide +kernel : decode cL_field 22 = .ok (.ireturn, 1))
theorem zw_ws_end : (decide (Cond.methodLink RL 39 yX4_end ∈ zWS) && decide (Cond.instanceMethod yX4_end ∈ zWS) && decide (Cond.selects RX4 yX4_end yX4_end ∈ zWS) && decide (Cond.initialized RX4 ∈ zWS)) = true ∧ Cond.code yX4_end cX4_end 3 (some .int) ∈ zWS := ⟨by decide +kernel, by decide +kernel⟩
set_option maxHeartbeats 4000000 in
theorem zw_end (l : Launch) (hl : l.stackTraces = false) (D : va_G) (ca : Nat → ClassId) (ad : zAD) (A : Nat → Prop) (g : zSG) (ao : Nat) (cJ : ClassId) (f : Nat → Int64) (x1 x2 : Int32) (r : zRR) (hF : zF_X4_end (.inr (.inl (0, 0, 0)) :: [.inl x1, .inl x2]) g = some r) (hgood : zGood q_eXI r.1) : vx_Met l yL_end (.codeWith yL_end cL_end 5 (some .int) [(0, 10, 13, 19), (0, 10, 17, 13)] :: zWS) (zrm 90 6 430) (va_Pc [.ref (ad 0 0 0), .int x1, .int x2, .ref ao] (zPw D ca ad A g ao cJ f)) (zQw D ca ad A r.2 ao cJ r.1 q_eXI Int32.toInt64) (fun _ _ _ => False) 6 430 A := by
  refine vx_ofWH (by decide +kernel) rfl ?_
  intro p e s m args below meth c s₁ B hml hv
  obtain ⟨rfl, hK, hKJ, hL, hO, hA, hE0, hN1, hN2⟩ := hv
  have hx := B.exec
  have hb := B.bytes
  have hr := B.returns
  have hpre := atoms_spec (ws := .codeWith yL_end cL_end 5 (some .int) [(0, 10, 13, 19), (0, 10, 17, 13)] :: zWS) B.pre
  have hts : ∀ w ∈ zWS, w.before _ s = true := fun w hw => hpre w (List.mem_cons_of_mem _ hw)
  have htab := vx_table (x := yL_end) B (hpre _ List.mem_cons_self)
  have hown : s.vm.findClass RL = some m.cls := findClass_of_methodNamed B.named
  have hlocks := B.notSynchronized
  have hS : va_S A s.heap s.heap [] := va_S.rf
  have hl0 := lv_entry ([.ref (ad 0 0 0), .int x1, .int x2, .ref ao]) (n := 5) (Nat.le_of_ble_eq_true rfl)
  rw [lg_entry_eq]
  generalize (lg_sl ([.ref (ad 0 0 0), .int x1, .int x2, .ref ao]) ++ List.replicate (5 - (lg_sl ([.ref (ad 0 0 0), .int x1, .int x2, .ref ao])).length) Slot.unset).toArray = ls at hl0 ⊢
  have hls : lv_has ls 5 [(0, .ref (ad 0 0 0)), (1, .int x1), (2, .int x2), (3, .ref ao)] := hl0
  generalize ([.ref (ad 0 0 0), .int x1, .int x2, .ref ao] : List Value).toArray = av at hts ⊢
  have hcl : ∀ n, n ≤ 6 → n ≤ (headSpec (.codeWith yL_end cL_end 5 (some .int) [(0, 10, 13, 19), (0, 10, 17, 13)] :: zWS) (zrm 90 6 430)).room.cells := fun n h => h
  have hsl : ∀ n, n ≤ 430 → n ≤ (headSpec (.codeWith yL_end cL_end 5 (some .int) [(0, 10, 13, 19), (0, 10, 17, 13)] :: zWS) (zrm 90 6 430)).room.slots := fun n h => h
  refine lv_aload_n hx hb (by decide +kernel : decode cL_end 0 = .ok (.aload_n 3, 1)) rfl (lv_at hls 3 rfl) ?_
  refine lv_iconst (v := 0) hx hb (by decide +kernel : decode cL_end 1 = .ok (.iconst 0, 1)) rfl ?_
  refine lv_aload_n hx hb (by decide +kernel : decode cL_end 2 = .ok (.aload_n 0, 1)) rfl (lv_at hls 0 rfl) ?_
  refine lv_iload_n hx hb (by decide +kernel : decode cL_end 3 = .ok (.iload_n 1, 1)) rfl (lv_at hls 1 rfl) ?_
  refine lv_iload_n hx hb (by decide +kernel : decode cL_end 4 = .ok (.iload_n 2, 1)) rfl (lv_at hls 2 rfl) ?_
  have hw := zw_ws_end
  refine zl_runU (zl_runCU (zl_rV (cn := 0) (i := 0) (n := 2) (vs := [.inl x1, .inl x2]) (rest := [.int 0, .ref ao]) (C := RX4) (zt_X4_end l hl) hw.1 hw.2 rfl (by decide +kernel) ⟨Nat.le_of_ble_eq_true rfl, Nat.le_of_ble_eq_true rfl⟩ rfl (by decide) (by decide) ⟨hx, hb, hml, hown, hts⟩ hK hE0 hA hS hL hF rfl rfl (Nat.le_of_ble_eq_true rfl) hls.1 (by decide +kernel : decode cL_end 5 = .ok (.invokevirtual 39, 3)) ⟨hcl _ (by decide), hsl _ (by decide)⟩) hL) hA hS hL (fun vv hvv H1 locs1 ad1 hae hL1 hnw hS1 hk1 => ?_) (fun k hk H1 locs1 q ce hL1 hS1 hk1 h1 h2 h3 => ?_)
  · obtain ⟨val, hval⟩ := zGood_v hgood hvv
    subst hval
    have hO1 := zw_O hO hL hk1 hae hnw
    refine lv_i2l (v := val.toInt64) hx hb (by decide +kernel : decode cL_end 8 = .ok (.i2l, 1)) rfl ?_
    exact zw_fin (cv := Int32.toInt64) (a := 9) (en := 21) hx hb hr hlocks hKJ hL1 hO1 hS1 hae hvv (hcl _ (by decide)) (hsl _ (by decide)) (by decide +kernel : decode cL_end 9 = .ok (.lastore, 1)) (by decide +kernel : decode cL_end 10 = .ok (.goto 11, 3)) (by decide) (by decide +kernel : decode cL_end 21 = .ok (.iconst 0, 1)) (by decide +kernel : decode cL_end 22 = .ok (.ireturn, 1))
  · have hO1 := zw_O hO hL hk1 (fun _ _ _ _ => rfl) (fun q _ => Or.inl rfl)
    have hgk := zGood_x hgood hk
    rcases q_eXI_ne hgk with ek | ek
    · subst ek
      refine z_catch1 (own := RL) (name := zEx 1) (x := ⟨0, 10, 13, 19⟩) (suf := [⟨0, 10, 17, 13⟩]) hown htab (by decide) (by decide) (hts (.classLink RL 19 (zEx 1)) (by decide +kernel)) (zE0_cast hE0 1 (by decide)) h1 h2 h3 ?_
      refine lv_astore (lv' := (4, .ref q) :: [(0, .ref (ad 0 0 0)), (1, .int x1), (2, .int x2), (3, .ref ao)]) hx hb (by decide +kernel : decode cL_end 13 = .ok (.astore 4, 2)) hls (by decide) rfl (fun ls hls => ?_)
      refine lv_iconst (v := 1) hx hb (by decide +kernel : decode cL_end 15 = .ok (.iconst 1, 1)) rfl ?_
      exact zw_exc hx hb hr hlocks hL1 hO1 hS1 hk rfl (hcl _ (by decide)) (hsl _ (by decide)) (by decide +kernel : decode cL_end 16 = .ok (.ireturn, 1))
    · subst ek
      refine z_catch2 (own := RL) (name := zEx 0) (name1 := zEx 1) (y := ⟨0, 10, 13, 19⟩) (x := ⟨0, 10, 17, 13⟩) (suf := []) hown htab (by decide) (by decide) (hts (.classLink RL 19 (zEx 1)) (by decide +kernel)) hN2 (by decide) (by decide) (hts (.classLink RL 13 (zEx 0)) (by decide +kernel)) (zE0_cast hE0 0 (by decide)) h1 h2 h3 ?_
      refine lv_astore (lv' := (4, .ref q) :: [(0, .ref (ad 0 0 0)), (1, .int x1), (2, .int x2), (3, .ref ao)]) hx hb (by decide +kernel : decode cL_end 17 = .ok (.astore 4, 2)) hls (by decide) rfl (fun ls hls => ?_)
      refine lv_iconst (v := 2) hx hb (by decide +kernel : decode cL_end 19 = .ok (.iconst 2, 1)) rfl ?_
      exact zw_exc hx hb hr hlocks hL1 hO1 hS1 hk rfl (hcl _ (by decide)) (hsl _ (by decide)) (by decide +kernel : decode cL_end 20 = .ok (.ireturn, 1))
theorem zw_ws_touched : (decide (Cond.methodLink RL 42 yX4_touched ∈ zWS) && decide (Cond.instanceMethod yX4_touched ∈ zWS) && decide (Cond.selects RX4 yX4_touched yX4_touched ∈ zWS) && decide (Cond.initialized RX4 ∈ zWS)) = true ∧ Cond.code yX4_touched cX4_touched 5 (some .int) ∈ zWS := ⟨by decide +kernel, by decide +kernel⟩
set_option maxHeartbeats 4000000 in
theorem zw_touched (l : Launch) (hl : l.stackTraces = false) (D : va_G) (ca : Nat → ClassId) (ad : zAD) (A : Nat → Prop) (g : zSG) (ao : Nat) (cJ : ClassId) (f : Nat → Int64) (x1 x2 x3 : Int32) (r : zRR) (hF : zF_X4_touched (.inr (.inl (0, 0, 0)) :: [.inl x1, .inl x2, .inl x3]) g = some r) (hgood : zGood q_eNI r.1) : vx_Met l yL_touched (.codeWith yL_touched cL_touched 6 (some .int) [(0, 12, 15, 31), (0, 12, 19, 13)] :: zWS) (zrm 90 6 430) (va_Pc [.ref (ad 0 0 0), .int x1, .int x2, .int x3, .ref ao] (zPw D ca ad A g ao cJ f)) (zQw D ca ad A r.2 ao cJ r.1 q_eNI Int32.toInt64) (fun _ _ _ => False) 6 430 A := by
  refine vx_ofWH (by decide +kernel) rfl ?_
  intro p e s m args below meth c s₁ B hml hv
  obtain ⟨rfl, hK, hKJ, hL, hO, hA, hE0, hN1, hN2⟩ := hv
  have hx := B.exec
  have hb := B.bytes
  have hr := B.returns
  have hpre := atoms_spec (ws := .codeWith yL_touched cL_touched 6 (some .int) [(0, 12, 15, 31), (0, 12, 19, 13)] :: zWS) B.pre
  have hts : ∀ w ∈ zWS, w.before _ s = true := fun w hw => hpre w (List.mem_cons_of_mem _ hw)
  have htab := vx_table (x := yL_touched) B (hpre _ List.mem_cons_self)
  have hown : s.vm.findClass RL = some m.cls := findClass_of_methodNamed B.named
  have hlocks := B.notSynchronized
  have hS : va_S A s.heap s.heap [] := va_S.rf
  have hl0 := lv_entry ([.ref (ad 0 0 0), .int x1, .int x2, .int x3, .ref ao]) (n := 6) (Nat.le_of_ble_eq_true rfl)
  rw [lg_entry_eq]
  generalize (lg_sl ([.ref (ad 0 0 0), .int x1, .int x2, .int x3, .ref ao]) ++ List.replicate (6 - (lg_sl ([.ref (ad 0 0 0), .int x1, .int x2, .int x3, .ref ao])).length) Slot.unset).toArray = ls at hl0 ⊢
  have hls : lv_has ls 6 [(0, .ref (ad 0 0 0)), (1, .int x1), (2, .int x2), (3, .int x3), (4, .ref ao)] := hl0
  generalize ([.ref (ad 0 0 0), .int x1, .int x2, .int x3, .ref ao] : List Value).toArray = av at hts ⊢
  have hcl : ∀ n, n ≤ 6 → n ≤ (headSpec (.codeWith yL_touched cL_touched 6 (some .int) [(0, 12, 15, 31), (0, 12, 19, 13)] :: zWS) (zrm 90 6 430)).room.cells := fun n h => h
  have hsl : ∀ n, n ≤ 430 → n ≤ (headSpec (.codeWith yL_touched cL_touched 6 (some .int) [(0, 12, 15, 31), (0, 12, 19, 13)] :: zWS) (zrm 90 6 430)).room.slots := fun n h => h
  refine lv_aload hx hb (by decide +kernel : decode cL_touched 0 = .ok (.aload 4, 2)) (lv_at hls 4 rfl) ?_
  refine lv_iconst (v := 0) hx hb (by decide +kernel : decode cL_touched 2 = .ok (.iconst 0, 1)) rfl ?_
  refine lv_aload_n hx hb (by decide +kernel : decode cL_touched 3 = .ok (.aload_n 0, 1)) rfl (lv_at hls 0 rfl) ?_
  refine lv_iload_n hx hb (by decide +kernel : decode cL_touched 4 = .ok (.iload_n 1, 1)) rfl (lv_at hls 1 rfl) ?_
  refine lv_iload_n hx hb (by decide +kernel : decode cL_touched 5 = .ok (.iload_n 2, 1)) rfl (lv_at hls 2 rfl) ?_
  refine lv_iload_n hx hb (by decide +kernel : decode cL_touched 6 = .ok (.iload_n 3, 1)) rfl (lv_at hls 3 rfl) ?_
  have hw := zw_ws_touched
  refine zl_runU (zl_runCU (zl_rV (cn := 0) (i := 0) (n := 3) (vs := [.inl x1, .inl x2, .inl x3]) (rest := [.int 0, .ref ao]) (C := RX4) (zt_X4_touched l hl) hw.1 hw.2 rfl (by decide +kernel) ⟨Nat.le_of_ble_eq_true rfl, Nat.le_of_ble_eq_true rfl⟩ rfl (by decide) (by decide) ⟨hx, hb, hml, hown, hts⟩ hK hE0 hA hS hL hF rfl rfl (Nat.le_of_ble_eq_true rfl) hls.1 (by decide +kernel : decode cL_touched 7 = .ok (.invokevirtual 42, 3)) ⟨hcl _ (by decide), hsl _ (by decide)⟩) hL) hA hS hL (fun vv hvv H1 locs1 ad1 hae hL1 hnw hS1 hk1 => ?_) (fun k hk H1 locs1 q ce hL1 hS1 hk1 h1 h2 h3 => ?_)
  · obtain ⟨val, hval⟩ := zGood_v hgood hvv
    subst hval
    have hO1 := zw_O hO hL hk1 hae hnw
    refine lv_i2l (v := val.toInt64) hx hb (by decide +kernel : decode cL_touched 10 = .ok (.i2l, 1)) rfl ?_
    exact zw_fin (cv := Int32.toInt64) (a := 11) (en := 23) hx hb hr hlocks hKJ hL1 hO1 hS1 hae hvv (hcl _ (by decide)) (hsl _ (by decide)) (by decide +kernel : decode cL_touched 11 = .ok (.lastore, 1)) (by decide +kernel : decode cL_touched 12 = .ok (.goto 11, 3)) (by decide) (by decide +kernel : decode cL_touched 23 = .ok (.iconst 0, 1)) (by decide +kernel : decode cL_touched 24 = .ok (.ireturn, 1))
  · have hO1 := zw_O hO hL hk1 (fun _ _ _ _ => rfl) (fun q _ => Or.inl rfl)
    have hgk := zGood_x hgood hk
    rcases q_eNI_ne hgk with ek | ek
    · subst ek
      refine z_catch1 (own := RL) (name := zEx 2) (x := ⟨0, 12, 15, 31⟩) (suf := [⟨0, 12, 19, 13⟩]) hown htab (by decide) (by decide) (hts (.classLink RL 31 (zEx 2)) (by decide +kernel)) (zE0_cast hE0 2 (by decide)) h1 h2 h3 ?_
      refine lv_astore (lv' := (5, .ref q) :: [(0, .ref (ad 0 0 0)), (1, .int x1), (2, .int x2), (3, .int x3), (4, .ref ao)]) hx hb (by decide +kernel : decode cL_touched 15 = .ok (.astore 5, 2)) hls (by decide) rfl (fun ls hls => ?_)
      refine lv_iconst (v := 1) hx hb (by decide +kernel : decode cL_touched 17 = .ok (.iconst 1, 1)) rfl ?_
      exact zw_exc hx hb hr hlocks hL1 hO1 hS1 hk rfl (hcl _ (by decide)) (hsl _ (by decide)) (by decide +kernel : decode cL_touched 18 = .ok (.ireturn, 1))
    · subst ek
      refine z_catch2 (own := RL) (name := zEx 0) (name1 := zEx 2) (y := ⟨0, 12, 15, 31⟩) (x := ⟨0, 12, 19, 13⟩) (suf := []) hown htab (by decide) (by decide) (hts (.classLink RL 31 (zEx 2)) (by decide +kernel)) hN1 (by decide) (by decide) (hts (.classLink RL 13 (zEx 0)) (by decide +kernel)) (zE0_cast hE0 0 (by decide)) h1 h2 h3 ?_
      refine lv_astore (lv' := (5, .ref q) :: [(0, .ref (ad 0 0 0)), (1, .int x1), (2, .int x2), (3, .int x3), (4, .ref ao)]) hx hb (by decide +kernel : decode cL_touched 19 = .ok (.astore 5, 2)) hls (by decide) rfl (fun ls hls => ?_)
      refine lv_iconst (v := 2) hx hb (by decide +kernel : decode cL_touched 21 = .ok (.iconst 2, 1)) rfl ?_
      exact zw_exc hx hb hr hlocks hL1 hO1 hS1 hk rfl (hcl _ (by decide)) (hsl _ (by decide)) (by decide +kernel : decode cL_touched 22 = .ok (.ireturn, 1))
theorem zw_ws_calls : (decide (Cond.methodLink RL 45 yX4_calls ∈ zWS) && decide (Cond.instanceMethod yX4_calls ∈ zWS) && decide (Cond.selects RX4 yX4_calls yX4_calls ∈ zWS) && decide (Cond.initialized RX4 ∈ zWS)) = true ∧ Cond.code yX4_calls cX4_calls 2 (some .int) ∈ zWS := ⟨by decide +kernel, by decide +kernel⟩
set_option maxHeartbeats 4000000 in
theorem zw_calls (l : Launch) (hl : l.stackTraces = false) (D : va_G) (ca : Nat → ClassId) (ad : zAD) (A : Nat → Prop) (g : zSG) (ao : Nat) (cJ : ClassId) (f : Nat → Int64) (x1 : Int32) (r : zRR) (hF : zF_X4_calls (.inr (.inl (0, 0, 0)) :: [.inl x1]) g = some r) (hgood : zGood q_eI r.1) : vx_Met l yL_calls (.codeWith yL_calls cL_calls 4 (some .int) [(0, 9, 12, 13)] :: zWS) (zrm 90 6 430) (va_Pc [.ref (ad 0 0 0), .int x1, .ref ao] (zPw D ca ad A g ao cJ f)) (zQw D ca ad A r.2 ao cJ r.1 q_eI Int32.toInt64) (fun _ _ _ => False) 6 430 A := by
  refine vx_ofWH (by decide +kernel) rfl ?_
  intro p e s m args below meth c s₁ B hml hv
  obtain ⟨rfl, hK, hKJ, hL, hO, hA, hE0, hN1, hN2⟩ := hv
  have hx := B.exec
  have hb := B.bytes
  have hr := B.returns
  have hpre := atoms_spec (ws := .codeWith yL_calls cL_calls 4 (some .int) [(0, 9, 12, 13)] :: zWS) B.pre
  have hts : ∀ w ∈ zWS, w.before _ s = true := fun w hw => hpre w (List.mem_cons_of_mem _ hw)
  have htab := vx_table (x := yL_calls) B (hpre _ List.mem_cons_self)
  have hown : s.vm.findClass RL = some m.cls := findClass_of_methodNamed B.named
  have hlocks := B.notSynchronized
  have hS : va_S A s.heap s.heap [] := va_S.rf
  have hl0 := lv_entry ([.ref (ad 0 0 0), .int x1, .ref ao]) (n := 4) (Nat.le_of_ble_eq_true rfl)
  rw [lg_entry_eq]
  generalize (lg_sl ([.ref (ad 0 0 0), .int x1, .ref ao]) ++ List.replicate (4 - (lg_sl ([.ref (ad 0 0 0), .int x1, .ref ao])).length) Slot.unset).toArray = ls at hl0 ⊢
  have hls : lv_has ls 4 [(0, .ref (ad 0 0 0)), (1, .int x1), (2, .ref ao)] := hl0
  generalize ([.ref (ad 0 0 0), .int x1, .ref ao] : List Value).toArray = av at hts ⊢
  have hcl : ∀ n, n ≤ 6 → n ≤ (headSpec (.codeWith yL_calls cL_calls 4 (some .int) [(0, 9, 12, 13)] :: zWS) (zrm 90 6 430)).room.cells := fun n h => h
  have hsl : ∀ n, n ≤ 430 → n ≤ (headSpec (.codeWith yL_calls cL_calls 4 (some .int) [(0, 9, 12, 13)] :: zWS) (zrm 90 6 430)).room.slots := fun n h => h
  refine lv_aload_n hx hb (by decide +kernel : decode cL_calls 0 = .ok (.aload_n 2, 1)) rfl (lv_at hls 2 rfl) ?_
  refine lv_iconst (v := 0) hx hb (by decide +kernel : decode cL_calls 1 = .ok (.iconst 0, 1)) rfl ?_
  refine lv_aload_n hx hb (by decide +kernel : decode cL_calls 2 = .ok (.aload_n 0, 1)) rfl (lv_at hls 0 rfl) ?_
  refine lv_iload_n hx hb (by decide +kernel : decode cL_calls 3 = .ok (.iload_n 1, 1)) rfl (lv_at hls 1 rfl) ?_
  have hw := zw_ws_calls
  refine zl_runU (zl_runCU (zl_rV (cn := 0) (i := 0) (n := 1) (vs := [.inl x1]) (rest := [.int 0, .ref ao]) (C := RX4) (zt_X4_calls l hl) hw.1 hw.2 rfl (by decide +kernel) ⟨Nat.le_of_ble_eq_true rfl, Nat.le_of_ble_eq_true rfl⟩ rfl (by decide) (by decide) ⟨hx, hb, hml, hown, hts⟩ hK hE0 hA hS hL hF rfl rfl (Nat.le_of_ble_eq_true rfl) hls.1 (by decide +kernel : decode cL_calls 4 = .ok (.invokevirtual 45, 3)) ⟨hcl _ (by decide), hsl _ (by decide)⟩) hL) hA hS hL (fun vv hvv H1 locs1 ad1 hae hL1 hnw hS1 hk1 => ?_) (fun k hk H1 locs1 q ce hL1 hS1 hk1 h1 h2 h3 => ?_)
  · obtain ⟨val, hval⟩ := zGood_v hgood hvv
    subst hval
    have hO1 := zw_O hO hL hk1 hae hnw
    refine lv_i2l (v := val.toInt64) hx hb (by decide +kernel : decode cL_calls 7 = .ok (.i2l, 1)) rfl ?_
    exact zw_fin (cv := Int32.toInt64) (a := 8) (en := 15) hx hb hr hlocks hKJ hL1 hO1 hS1 hae hvv (hcl _ (by decide)) (hsl _ (by decide)) (by decide +kernel : decode cL_calls 8 = .ok (.lastore, 1)) (by decide +kernel : decode cL_calls 9 = .ok (.goto 6, 3)) (by decide) (by decide +kernel : decode cL_calls 15 = .ok (.iconst 0, 1)) (by decide +kernel : decode cL_calls 16 = .ok (.ireturn, 1))
  · have hO1 := zw_O hO hL hk1 (fun _ _ _ _ => rfl) (fun q _ => Or.inl rfl)
    have hgk := zGood_x hgood hk
    have ek : k = 0 := q_eI_ne hgk
    subst ek
    refine z_catch1 (own := RL) (name := zEx 0) (x := ⟨0, 9, 12, 13⟩) (suf := []) hown htab (by decide) (by decide) (hts (.classLink RL 13 (zEx 0)) (by decide +kernel)) (zE0_cast hE0 0 (by decide)) h1 h2 h3 ?_
    refine lv_astore_n (lv' := (3, .ref q) :: [(0, .ref (ad 0 0 0)), (1, .int x1), (2, .ref ao)]) hx hb (by decide +kernel : decode cL_calls 12 = .ok (.astore_n 3, 1)) rfl hls (by decide) rfl (fun ls hls => ?_)
    refine lv_iconst (v := 1) hx hb (by decide +kernel : decode cL_calls 13 = .ok (.iconst 1, 1)) rfl ?_
    exact zw_exc hx hb hr hlocks hL1 hO1 hS1 hk rfl (hcl _ (by decide)) (hsl _ (by decide)) (by decide +kernel : decode cL_calls 14 = .ok (.ireturn, 1))
