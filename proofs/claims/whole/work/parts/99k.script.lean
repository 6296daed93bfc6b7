/-! ===== Arrays.copyOf, Reader.script ===== -/
def zPcp (D : va_G) (ca : Nat → ClassId) (a0 n sz : Nat) (f : Nat → Int32) (U : State) : Prop := U.heap.size = sz ∧ va_K D zCL (zTL ca) U ∧ va_P D zCL [(a0, .inl (ca 0, n, .inl f))] U.heap
theorem zPcp_blind {D : va_G} {ca : Nat → ClassId} {a0 n sz : Nat} {f : Nat → Int32} {vs : List Value} : FrameBlind (va_Pc vs (zPcp D ca a0 n sz f)) := by
  intro a U g' mk h
  obtain ⟨h1, h2, h3, h4⟩ := h
  exact ⟨h1, h2, va_K.moved (u := U) (U := U.calling g' mk a) (Vm.Alike.refl U.vm) h3, h4⟩
theorem zcp_w : (decide (Cond.methodLink RJ7 304 Lib.Math.min.name ∈ zWS) && decide (Cond.static Lib.Math.min.name ∈ zWS) && decide (Cond.initialized "java/lang/Math" ∈ zWS) && decide (Cond.code Lib.Math.min.name Lib.Math.min.code 2 (some .int) ∈ zWS) && decide (Cond.methodLink RJ7 150 arraycopyName ∈ zWS) && decide (Cond.native arraycopyName ∈ zWS) && decide (Cond.static arraycopyName ∈ zWS) && decide (Cond.initialized "java/lang/System" ∈ zWS)) = true := by decide +kernel
theorem zt_copy (l : Launch) (D : va_G) (ca : Nat → ClassId) (a0 n sz k : Nat) (f : Nat → Int32) (hk : k < n) (hn : n ≤ 400) : Met l yJ7_copyOf_59c91 (.code yJ7_copyOf_59c91 cJ7_copyOf_59c91 3 (some (.array .int)) :: zWS) (zrm 2 1 400) (va_Pc [.ref a0, .int (nI k)] (zPcp D ca a0 n sz f)) (va_Qr (fun h : Nat → Int32 => ∀ j, j < k → h j = f j) (fun h q t => sz ≤ q ∧ va_P D zCL [(a0, .inl (ca 0, n, .inl f)), (q, .inl (ca 0, k, .inl h))] t.heap) (fun x => x = a0 ∨ sz ≤ x)) 1 400 (fun x => x = a0 ∨ sz ≤ x) := by
  refine Met.ofW (cc := cJ7_copyOf_59c91) (maxL := 3) (ret := (some (.array .int))) (by decide +kernel) rfl ?_
  intro p e s m args below meth c s₁ B hml hv
  obtain ⟨rfl, rfl, hK, hP⟩ := hv
  have hx := B.exec
  have hb := B.bytes
  have hr := B.returns
  have hts : ∀ w ∈ zWS, w.before _ s = true := fun w hw => atoms_spec (ws := .code yJ7_copyOf_59c91 cJ7_copyOf_59c91 3 (some (.array .int)) :: zWS) B.pre w (List.mem_cons_of_mem _ hw)
  have hown : s.vm.findClass RJ7 = some m.cls := findClass_of_methodNamed B.named
  have hlocks := B.notSynchronized
  have hA : ∀ q, s.heap.size ≤ q → (fun x => x = a0 ∨ s.heap.size ≤ x) q := fun q h => Or.inr h
  have hD : va_D (fun x => x = a0 ∨ s.heap.size ≤ x) [(a0, .inl (ca 0, n, .inl f))] := zD_iff.mpr ⟨by simp, fun q hq => by rw [List.mem_singleton] at hq; rw [hq]; exact Or.inl rfl⟩
  have hS : va_S (fun x => x = a0 ∨ s.heap.size ≤ x) s.heap s.heap [] := va_S.rf
  have hl := lv_entry ([.ref a0, .int (nI k)]) (n := 3) (Nat.le_of_ble_eq_true rfl)
  rw [lg_entry_eq]
  generalize (lg_sl ([.ref a0, .int (nI k)]) ++ List.replicate (3 - (lg_sl ([.ref a0, .int (nI k)])).length) Slot.unset).toArray = ls at hl ⊢
  have hl : lv_has ls 3 [(0, .ref a0), (1, .int (nI k))] := hl
  have hw := zcp_w
  simp only [Bool.and_eq_true, decide_eq_true_eq] at hw
  obtain ⟨⟨⟨⟨⟨⟨⟨w1, w2⟩, w3⟩, w4⟩, w5⟩, w6⟩, w7⟩, w8⟩ := hw
  refine lv_iload_n hx hb (by decide +kernel : decode cJ7_copyOf_59c91 0 = .ok (.iload_n 1, 1)) rfl (lv_at hl 1 rfl) ?_
  refine lv_aload_n hx hb (by decide +kernel : decode cJ7_copyOf_59c91 1 = .ok (.aload_n 0, 1)) rfl (lv_at hl 0 rfl) ?_
  refine va_alen (ty := .int) (v := nI n) hx hb hK hP 0 0 rfl rfl rfl (by decide +kernel : decode cJ7_copyOf_59c91 2 = .ok (.arraylength, 1)) ?_
  refine lv_icmp_ne (tgt := 14) hx hb (by decide +kernel : decode cJ7_copyOf_59c91 3 = .ok (.if_icmp .ne 11, 3)) (by decide) (fun _ => ?_) (fun c1 => absurd ((nI_eq (by omega) (by omega)).mp c1) (by omega))
  refine lv_iload_n hx hb (by decide +kernel : decode cJ7_copyOf_59c91 14 = .ok (.iload_n 1, 1)) rfl (lv_at hl 1 rfl) ?_
  refine zn_new (N := k) false hx hb hts hK hP hD hS hA (by omega) (show 0 + 1 ≤ 1 by decide) (show 0 + k ≤ 400 by omega) (by decide +kernel : decode cJ7_copyOf_59c91 15 = .ok (.newarray .int, 2)) (fun q H1 hP1 hD1 hS1 => ?_)
  have hq : s.heap.size ≤ q := by
    have h1 := zD_iff.mp hD1
    have h2 := h1.2 (q, .inl (ca 0, k, .inl (fun _ => 0))) (by simp)
    rcases h2 with h2 | h2
    · have h3 := hD1.1 0 1 _ _ rfl rfl (show a0 = q from h2.symm)
      cases h3
    · exact h2
  refine lv_astore_n (lv' := [(2, .ref q), (0, .ref a0), (1, .int (nI k))]) hx hb (by decide +kernel : decode cJ7_copyOf_59c91 17 = .ok (.astore_n 2, 1)) rfl hl (by decide) rfl (fun ls hl => ?_)
  refine lv_aload_n hx hb (by decide +kernel : decode cJ7_copyOf_59c91 18 = .ok (.aload_n 0, 1)) rfl (lv_at hl 1 rfl) ?_
  refine lv_iconst (v := 0) hx hb (by decide +kernel : decode cJ7_copyOf_59c91 19 = .ok (.iconst 0, 1)) rfl ?_
  refine lv_aload_n hx hb (by decide +kernel : decode cJ7_copyOf_59c91 20 = .ok (.aload_n 2, 1)) rfl (lv_at hl 0 rfl) ?_
  refine lv_iconst (v := 0) hx hb (by decide +kernel : decode cJ7_copyOf_59c91 21 = .ok (.iconst 0, 1)) rfl ?_
  refine lv_aload_n hx hb (by decide +kernel : decode cJ7_copyOf_59c91 22 = .ok (.aload_n 0, 1)) rfl (lv_at hl 1 rfl) ?_
  refine va_alen (ty := .int) (v := nI n) hx hb hK hP1 0 0 rfl rfl rfl (by decide +kernel : decode cJ7_copyOf_59c91 23 = .ok (.arraylength, 1)) ?_
  refine lv_iload_n hx hb (by decide +kernel : decode cJ7_copyOf_59c91 24 = .ok (.iload_n 1, 1)) rfl (lv_at hl 2 rfl) ?_
  refine va_mmin hx hb (by rw [hml, hl.1]) hown (hts _ w1) (hts _ w2) (hts _ w3) (hts _ w4) (Nat.le_of_ble_eq_true rfl) (Nat.le_of_ble_eq_true rfl) (show 0 + 1 ≤ 1 by decide) (show 0 + k ≤ 400 by omega) (by decide +kernel : decode cJ7_copyOf_59c91 25 = .ok (.invokestatic 304, 3)) ?_
  have em : (if nI k < nI n then nI k else nI n) = nI k := by
    by_cases h : k < n
    · rw [if_pos (nI_lt h (by omega))]
    · rw [if_neg (nI_nlt (by omega) (by omega)), show n = k by omega]
  rw [em]
  have hc0 : (0 : Int32).toNatClampNeg = 0 := by decide
  have hck : (nI k).toNatClampNeg = k := nI_clamp (by omega)
  refine va_copyi hx hb (by rw [hml, hl.1]) hown (hts _ w5) (hts _ w6) (hts _ w7) (hts _ w8) hK hP1 hD1 hS1 0 1 0 0 rfl rfl rfl rfl rfl (by decide) (by decide) (nI_pos (by omega)) (by rw [hc0, hck]; omega) (by rw [hc0, hck]; omega) (fun i _ => rfl) (Nat.le_of_ble_eq_true rfl) (Nat.le_of_ble_eq_true rfl) (by decide +kernel : decode cJ7_copyOf_59c91 28 = .ok (.invokestatic 150, 3)) (fun H2 locs2 hP2 hD2 hS2 => ?_)
  refine lv_aload_n hx hb (by decide +kernel : decode cJ7_copyOf_59c91 31 = .ok (.aload_n 2, 1)) rfl (lv_at hl 0 rfl) ?_
  refine W.widen (k := 1) (n := 400) (Nat.le_of_ble_eq_true rfl) (by omega) ?_
  refine W.aret (v := .ref q) hx hb hr (Or.inr ⟨_, rfl⟩) (Or.inr ⟨_, rfl⟩) (fun t ht hW => ⟨⟨_, q, rfl, fun j hj => ?_, hq, by rw [ht]; exact hP2⟩, hS2.F ht⟩) hS2.2.2 (by decide +kernel : decode cJ7_copyOf_59c91 32 = .ok (.areturn, 1))
  rw [hc0, hck]
  unfold va_cpy
  rw [if_pos ⟨by omega, by omega⟩, show 0 + (j - 0) = j by omega]
def zPsc (D : va_G) (ca : Nat → ClassId) (hr a0 sz : Nat) (fs : List Value) (f : Nat → Int32) (U : State) : Prop := U.heap.size = sz ∧ va_K D zCL (zTL ca) U ∧ va_P D zCL [(hr, .inr (1, fs)), (a0, .inl (ca 0, 400, .inl f))] U.heap
theorem zPsc_blind {D : va_G} {ca : Nat → ClassId} {hr a0 sz : Nat} {fs : List Value} {f : Nat → Int32} {vs : List Value} : FrameBlind (va_Pc vs (zPsc D ca hr a0 sz fs f)) := by
  intro a U g' mk h
  obtain ⟨h1, h2, h3, h4⟩ := h
  exact ⟨h1, h2, va_K.moved (u := U) (U := U.calling g' mk a) (Vm.Alike.refl U.vm) h3, h4⟩
theorem zsc_w : (decide (Cond.classLink RX1 41 RX3 ∈ zWS) && decide (Cond.instantiable RX3 2 ∈ zWS) && decide (Cond.initialized RX3 ∈ zWS) && decide (Cond.instanceMethod yX3_init ∈ zWS) && decide (Cond.code yX3_init cX3_init 3 none ∈ zWS) && decide (Cond.methodLink RX1 49 yX3_init ∈ zWS) && decide (Cond.methodLink RX1 43 yJ7_copyOf_59c91 ∈ zWS) && decide (Cond.static yJ7_copyOf_59c91 ∈ zWS) && decide (Cond.initialized RJ7 ∈ zWS) && decide (Cond.code yJ7_copyOf_59c91 cJ7_copyOf_59c91 3 (some (.array .int)) ∈ zWS) && decide (Cond.fieldLink RX1 9 (TX1 0).1 (TX1 0).2.1 (TX1 0).2.2.1 ∈ zWS) && decide (Cond.fieldLink RX1 31 (TX1 4).1 (TX1 4).2.1 (TX1 4).2.2.1 ∈ zWS) && decide (Cond.fieldLink RX1 34 (TX1 5).1 (TX1 5).2.1 (TX1 5).2.2.1 ∈ zWS)) = true := by decide +kernel
theorem zt_script (l : Launch) (D : va_G) (ca : Nat → ClassId) (hr a0 sz k : Nat) (st : Int32) (fs : List Value) (f : Nat → Int32) (hne : hr ≠ a0) (hk : k < 400) (f0 : fs[0]? = some (.ref a0)) (f4 : fs[4]? = some (.int (nI k))) (f5 : fs[5]? = some (.int st)) : Met l yX1_script (.code yX1_script cX1_script 1 (some (.object RX3)) :: zWS) (zrm 4 2 402) (va_Pc [.ref hr] (zPsc D ca hr a0 sz fs f)) (va_Qr (fun u : Nat × (Nat → Int32) => sz ≤ u.1 ∧ ∀ j, j < k → u.2 j = f j) (fun u q t => sz ≤ q ∧ q < u.1 ∧ va_P D zCL [(a0, .inl (ca 0, 400, .inl f)), (q, .inr (5, [.ref u.1, .int st])), (u.1, .inl (ca 0, k, .inl u.2))] t.heap) (fun x => x = a0 ∨ sz ≤ x)) 2 402 (fun x => x = a0 ∨ sz ≤ x) := by
  refine Met.ofW (cc := cX1_script) (maxL := 1) (ret := (some (.object RX3))) (by decide +kernel) rfl ?_
  intro p e s m args below meth c s₁ B hml hv
  obtain ⟨rfl, rfl, hK, hP0⟩ := hv
  have hx := B.exec
  have hb := B.bytes
  have hr' := B.returns
  have hts : ∀ w ∈ zWS, w.before _ s = true := fun w hw => atoms_spec (ws := .code yX1_script cX1_script 1 (some (.object RX3)) :: zWS) B.pre w (List.mem_cons_of_mem _ hw)
  have hown : s.vm.findClass RX1 = some m.cls := findClass_of_methodNamed B.named
  have hlocks := B.notSynchronized
  have hA : ∀ q, s.heap.size ≤ q → (fun x => x = a0 ∨ s.heap.size ≤ x) q := fun q h => Or.inr h
  have hPr : va_P D zCL [(hr, .inr (1, fs))] s.heap := z_one (hP0 0 _ rfl)
  have hrl : hr < s.heap.size := (hP0 0 _ rfl).lt
  have hP : va_P D zCL [(a0, .inl (ca 0, 400, .inl f))] s.heap := z_one (hP0 1 _ rfl)
  have hD : va_D (fun x => x = a0 ∨ s.heap.size ≤ x) [(a0, .inl (ca 0, 400, .inl f))] := zD_iff.mpr ⟨by simp, fun q hq => by rw [List.mem_singleton] at hq; rw [hq]; exact Or.inl rfl⟩
  have hS : va_S (fun x => x = a0 ∨ s.heap.size ≤ x) s.heap s.heap [] := va_S.rf
  have hkr : ∀ (H : Heap) (locs : List Loc), va_S (fun x => x = a0 ∨ s.heap.size ≤ x) s.heap H locs → va_P D zCL [(hr, .inr (1, fs))] H := fun H locs hS => hPr.kept (fun k q hq => by
    match k, hq with
    | 0, hq => cases hq; exact hS.2.1 hr hrl (by rintro (h | h); exact hne h; omega)
    | k + 1, hq => simp at hq)
  have hl := lv_entry ([.ref hr]) (n := 1) (Nat.le_of_ble_eq_true rfl)
  rw [lg_entry_eq]
  generalize (lg_sl ([.ref hr]) ++ List.replicate (1 - (lg_sl ([.ref hr])).length) Slot.unset).toArray = ls at hl ⊢
  have hl : lv_has ls 1 [(0, .ref hr)] := hl
  have hw := zsc_w
  simp only [Bool.and_eq_true, decide_eq_true_eq] at hw
  obtain ⟨⟨⟨⟨⟨⟨⟨⟨⟨⟨⟨⟨w1, w2⟩, w3⟩, w4⟩, w5⟩, w6⟩, w7⟩, w8⟩, w9⟩, w10⟩, w11⟩, w12⟩, w13⟩ := hw
  refine va_new (ci := 5) (fs := [.null, .int 0]) (C := RX3) (T := TX3) (N := 2) hx hb hts (z_inFw (c := 5) rfl) (z_ty 5) (z_tyok (c := 5) rfl) hown (hts _ w1) (hts _ w2) (hts _ w3) hK hP hD hS hA rfl (fun j hj => by rcases (show j = 0 ∨ j = 1 by omega) with rfl | rfl <;> rfl) (Nat.le_of_ble_eq_true rfl) (Nat.le_of_ble_eq_true rfl) (by decide +kernel : decode cX1_script 0 = .ok (.new 41, 3)) (fun q H1 hP1 hD1 hS1 => ?_)
  have hq : s.heap.size ≤ q ∧ q ≠ a0 := by
    have h9 : q ≠ a0 := fun h => by
      have h3 := hD1.1 0 1 _ _ rfl rfl (show a0 = q from h.symm)
      cases h3
    have h2 := (zD_iff.mp hD1).2 (q, .inr (5, [.null, .int 0])) (by simp)
    exact ⟨h2.resolve_left h9, h9⟩
  refine lv_dup hx hb (by decide +kernel : decode cX1_script 3 = .ok (.dup, 1)) rfl ?_
  refine lv_aload_n hx hb (by decide +kernel : decode cX1_script 4 = .ok (.aload_n 0, 1)) rfl (lv_at hl 0 rfl) ?_
  refine va_get (D := D) (ci := 1) (v := .ref a0) (C := RX1) (T := TX1) (N := 6) hx hb hts (z_inFw (c := 1) rfl) hown hK (hkr H1 _ hS1) 0 rfl rfl 0 (by decide) (hts _ w11) (fun _ h => h) f0 (by decide +kernel : decode cX1_script 5 = .ok (.getfield 9, 3)) ?_
  refine lv_aload_n hx hb (by decide +kernel : decode cX1_script 8 = .ok (.aload_n 0, 1)) rfl (lv_at hl 0 rfl) ?_
  refine va_get (D := D) (ci := 1) (v := .int (nI k)) (C := RX1) (T := TX1) (N := 6) hx hb hts (z_inFw (c := 1) rfl) hown hK (hkr H1 _ hS1) 0 rfl rfl 4 (by decide) (hts _ w12) (fun _ h => h) f4 (by decide +kernel : decode cX1_script 9 = .ok (.getfield 31, 3)) ?_
  have ha0 : va_P D zCL [(a0, .inl (ca 0, 400, .inl f))] H1 := z_one (hP1 0 _ rfl)
  refine va_callr (va_runS (As := [.ref a0, .int (nI k)]) (rest := [.ref q, .ref q]) (own := RX1) ⟨hx, hb, hml, hown, hts⟩ (zt_copy l D ca a0 400 H1.size k f hk (by decide)) ⟨callB_of 2 hts (z_goodV (own := RX1) (C := RX1) (j := 43) w10) rfl rfl rfl (hts _ w9) (hts _ w7) (by decide +kernel) ⟨Nat.le_of_ble_eq_true rfl, Nat.le_of_ble_eq_true rfl⟩, hts _ w8⟩ ⟨zPcp_blind, fun U hU hW => ⟨rfl, by rw [hU], va_K.moved hW.alike hK, by rw [hU]; exact ha0⟩⟩ rfl rfl hl.1 rfl (lv_room (Nat.le_of_ble_eq_true rfl)) (by decide +kernel : decode cX1_script 12 = .ok (.invokestatic 43, 3)) ⟨Nat.le_of_ble_eq_true rfl, Nat.le_of_ble_eq_true rfl⟩) hS1 (fun x _ hx => hx.elim Or.inl (fun h => Or.inr (Nat.le_trans hS1.1 h))) (fun x hx => hx.elim Or.inl (fun h => Or.inr (Nat.le_trans hS1.1 h))) (fun h r t2 H2 locs2 ht2 hvm2 hpo hB2 hz2 hk2 hS2 => ?_)
  obtain ⟨hr2, hB2⟩ := hB2
  rw [ht2] at hB2
  have hql : q < H1.size := (hP1 1 _ rfl).lt
  have hPq : va_P D zCL [(q, .inr (5, [.null, .int 0]))] H2 := (z_one (hP1 1 _ rfl)).kept (fun k x hx => by
    match k, hx with
    | 0, hx => cases hx; exact hk2 q hql (by rintro (h | h); exact hq.2 h; omega)
    | k + 1, hx => simp at hx)
  refine lv_aload_n hx hb (by decide +kernel : decode cX1_script 15 = .ok (.aload_n 0, 1)) rfl (lv_at hl 0 rfl) ?_
  refine va_get (D := D) (ci := 1) (v := .int st) (C := RX1) (T := TX1) (N := 6) hx hb hts (z_inFw (c := 1) rfl) hown hK (hkr H2 _ hS2) 0 rfl rfl 5 (by decide) (hts _ w13) (fun _ h => h) f5 (by decide +kernel : decode cX1_script 16 = .ok (.getfield 34, 3)) ?_
  have hDo : va_D (fun x => x = q ∨ H2.size ≤ x) [(q, .inr (5, [.null, .int 0]))] := zD_iff.mpr ⟨by simp, fun x hx => by rw [List.mem_singleton] at hx; rw [hx]; exact Or.inl rfl⟩
  refine va_callv (va_runI (As := [.ref r, .int st]) (rest := [.ref q]) (own := RX1) ⟨hx, hb, hml, hown, hts⟩ (zi_X3 l D ca (fun x => x = q ∨ H2.size ≤ x) q r st) (cwI 2 hts (z_goodV (own := RX1) (C := RX3) (j := 49) w5) rfl rfl rfl (hts _ w3) (hts _ w6) (hts _ w4) rfl (by decide +kernel) ⟨Nat.le_of_ble_eq_true rfl, Nat.le_of_ble_eq_true rfl⟩) ⟨zP3_blind, fun U hU hW => ⟨rfl, va_K.moved hW.alike hK, by rw [hU]; exact hPq, hDo, fun x hx => Or.inr (by rw [hU] at hx; exact hx)⟩⟩ rfl rfl hl.1 rfl (lv_room (Nat.le_of_ble_eq_true rfl)) (by decide +kernel : decode cX1_script 19 = .ok (.invokespecial 49, 3)) ⟨Nat.le_of_ble_eq_true rfl, Nat.le_of_ble_eq_true rfl⟩) hS2 (fun x _ hx => hx.elim (fun h => Or.inr (by rw [h]; exact hq.1)) (fun h => Or.inr (Nat.le_trans hS2.1 h))) (fun x hx => hx.elim (fun h => Or.inr (by rw [h]; exact hq.1)) (fun h => Or.inr (Nat.le_trans hS2.1 h))) (fun _ t3 H3 locs3 ht3 hvm3 _ hB3 hz3 hk3 hS3 => ?_)
  have hB3 : va_P D zCL [(q, .inr (5, [.ref r, .int st]))] t3.heap := hB3
  rw [ht3] at hB3
  have hP3 : va_P D zCL [(a0, .inl (ca 0, 400, .inl f)), (r, .inl (ca 0, k, .inl h))] H3 := hB2.kept (fun i x hx => by
    have hxl := (hB2 i x hx).lt
    refine hk3 x.1 hxl ?_
    match i, hx with
    | 0, hx => cases hx; rintro (h | h); exact hq.2 h.symm; exact absurd h (by omega)
    | 1, hx => cases hx; rintro (h | h); omega; exact absurd h (by omega)
    | i + 2, hx => simp at hx)
  have hfin : va_P D zCL [(a0, .inl (ca 0, 400, .inl f)), (q, .inr (5, [.ref r, .int st])), (r, .inl (ca 0, k, .inl h))] H3 := zP_iff.mpr fun x hx => by
    rcases List.mem_cons.mp hx with e | hx
    · rw [e]; exact hP3 0 _ rfl
    · rcases List.mem_cons.mp hx with e | hx
      · rw [e]; exact hB3 0 _ rfl
      · rw [List.mem_singleton] at hx
        rw [hx]; exact hP3 1 _ rfl
  refine W.widen (k := 2) (n := 402) (Nat.le_of_ble_eq_true rfl) (Nat.le_of_ble_eq_true rfl) ?_
  exact W.aret (v := .ref q) hx hb hr' (Or.inl ⟨_, rfl⟩) (Or.inr ⟨_, rfl⟩) (fun t ht hW => ⟨⟨(r, h), q, rfl, ⟨Nat.le_trans hS1.1 hr2, hpo⟩, hq.1, Nat.lt_of_lt_of_le hql hr2, by rw [ht]; exact hfin⟩, hS3.F ht⟩) hS3.2.2 (by decide +kernel : decode cX1_script 22 = .ok (.areturn, 1))
