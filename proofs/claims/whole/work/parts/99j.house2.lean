/-! ===== the constructor of ReplayHouse, whole ===== -/
theorem zP_iff {D : va_G} {ws : va_W} {H : Heap} : va_P D zCL ws H ↔ ∀ q ∈ ws, va_at D zCL q H := by
  refine ⟨fun h q hq => ?_, fun h k q hk => h q (List.mem_of_getElem? hk)⟩
  obtain ⟨k, hk⟩ := List.getElem?_of_mem hq
  exact h k q hk
theorem zD_iff {A : Nat → Prop} {ws : va_W} : va_D A ws ↔ (ws.map Prod.fst).Nodup ∧ ∀ q ∈ ws, A q.1 := by
  refine ⟨fun h => ⟨?_, fun q hq => ?_⟩, fun h => ⟨fun i j p q hi hj e => ?_, fun k q hk => h.2 q (List.mem_of_getElem? hk)⟩⟩
  · unfold List.Nodup
    rw [List.pairwise_iff_getElem]
    intro i j hi hj hij he
    rw [List.length_map] at hi hj
    rw [List.getElem_map, List.getElem_map] at he
    have := h.1 i j ws[i] ws[j] (List.getElem?_eq_getElem hi) (List.getElem?_eq_getElem hj) he
    omega
  · obtain ⟨k, hk⟩ := List.getElem?_of_mem hq
    exact h.2 k q hk
  · have hl : i < (ws.map Prod.fst).length := by
      rw [List.length_map]
      exact (List.getElem?_eq_some_iff.mp hi).1
    refine (List.getElem?_inj hl h.1).mp ?_
    rw [List.getElem?_map, List.getElem?_map, hi, hj]
    simp only [Option.map_some, e]
theorem zP_perm {D : va_G} {ws ws' : va_W} {H : Heap} (h : ws.Perm ws') (hP : va_P D zCL ws H) : va_P D zCL ws' H := zP_iff.mpr fun q hq => zP_iff.mp hP q (h.mem_iff.mpr hq)
theorem zD_perm {A : Nat → Prop} {ws ws' : va_W} (h : ws.Perm ws') (hD : va_D A ws) : va_D A ws' := by
  have h1 := zD_iff.mp hD
  exact zD_iff.mpr ⟨(h.map Prod.fst).nodup_iff.mp h1.1, fun q hq => h1.2 q (h.mem_iff.mpr hq)⟩
def zPh (D : va_G) (ca : Nat → ClassId) (A : Nat → Prop) (h0 : Nat) (U : State) : Prop := zPi D ca A 0 h0 U ∧ va_AO RX2 U ∧ va_AO RX3 U ∧ va_Nw (.methodLinkNest RX4 25 yX1_init RX4) U ∧ va_Nw (.methodLinkNest RX4 32 yX0_init RX4) U ∧ va_Nw (.methodLinkNest RX4 55 yX2_init RX4) U
theorem zPh_blind {D : va_G} {ca : Nat → ClassId} {A : Nat → Prop} {h0 : Nat} : FrameBlind (va_Pc [.ref h0] (zPh D ca A h0)) := by
  intro a U g' mk h
  obtain ⟨h1, h2, h3, h4, h5, h6, h7⟩ := h
  exact ⟨h1, (zPi_blind a U g' mk ⟨h1, h2⟩).2, va_AO.moved (u := U) (U := U.calling g' mk a) (Vm.Alike.refl U.vm) h3, va_AO.moved (u := U) (U := U.calling g' mk a) (Vm.Alike.refl U.vm) h4, h5.same rfl rfl, h6.same rfl rfl, h7.same rfl rfl⟩
theorem zh_w3 : ((decide (Cond.classLink RX4 23 RX1 ∈ zWS) && decide (Cond.instantiable RX1 6 ∈ zWS) && decide (Cond.initialized RX1 ∈ zWS) && decide (Cond.instanceMethod yX1_init ∈ zWS) && decide (Cond.code yX1_init cX1_init 1 none ∈ zWS)) = true) ∧ ((decide (Cond.classLink RX4 30 RX0 ∈ zWS) && decide (Cond.instantiable RX0 8 ∈ zWS) && decide (Cond.initialized RX0 ∈ zWS) && decide (Cond.instanceMethod yX0_init ∈ zWS) && decide (Cond.code yX0_init cX0_init 1 none ∈ zWS)) = true) := by decide +kernel
theorem zh_w4 : (decide (Cond.classLink RX4 37 RX3 ∈ zWS) && decide (Cond.instantiable RX3 2 ∈ zWS) && decide (Cond.initialized RX3 ∈ zWS) && decide (Cond.instanceMethod yX3_init ∈ zWS) && decide (Cond.code yX3_init cX3_init 3 none ∈ zWS) && decide (Cond.methodLink RX4 39 yX3_init ∈ zWS) && decide (Cond.classLink RX4 46 RX2 ∈ zWS)) = true := by decide +kernel
set_option maxHeartbeats 8000000 in
set_option maxRecDepth 100000 in
theorem zi_X4 (l : Launch) (D : va_G) (ca : Nat → ClassId) (A : Nat → Prop) (h0 : Nat) : Met l yX4_init (.code yX4_init cX4_init 3 none :: zWS) (zrm 3 69 3028) (va_Pc [.ref h0] (zPh D ca A h0)) (va_Qv (fun u : Nat → Nat → Nat => u 0 0 = h0) (fun u t => va_P D zCL (zHw ca u) t.heap ∧ va_D A (zHw ca u)) A) 69 3028 A := by
  refine Met.ofW (cc := cX4_init) (maxL := 3) (ret := none) (by decide +kernel) rfl ?_
  intro p e s m args below meth c s₁ B hml hv
  obtain ⟨rfl, ⟨hK, hP, hD, hA⟩, hO2, hO3, hl1, hl0, hl2⟩ := hv
  have hx := B.exec
  have hb := B.bytes
  have hr := B.returns
  have hts : ∀ w ∈ zWS, w.before _ s = true := fun w hw => atoms_spec (ws := .code yX4_init cX4_init 3 none :: zWS) B.pre w (List.mem_cons_of_mem _ hw)
  have hown : s.vm.findClass RX4 = some m.cls := findClass_of_methodNamed B.named
  have hlocks := B.notSynchronized
  have hin : meth.name = "<init>" := (name_of_methodNamed B.named B.method).1
  have hS : va_S A s.heap s.heap [] := va_S.rf
  have hl := lv_entry ([.ref h0]) (n := 3) (Nat.le_of_ble_eq_true rfl)
  rw [lg_entry_eq]
  generalize (lg_sl ([.ref h0]) ++ List.replicate (3 - (lg_sl ([.ref h0])).length) Slot.unset).toArray = ls at hl ⊢
  have hl : lv_has ls 3 [(0, .ref h0)] := hl
  have hR : 2 ≤ (headSpec (.code yX4_init cX4_init 3 none :: zWS) (zrm 3 69 3028)).room.frames ∧ 60 ≤ (headSpec (.code yX4_init cX4_init 3 none :: zWS) (zrm 3 69 3028)).room.locals := ⟨Nat.le_of_ble_eq_true rfl, Nat.le_of_ble_eq_true rfl⟩
  have hcl : ∀ n, n ≤ 69 → n ≤ (headSpec (.code yX4_init cX4_init 3 none :: zWS) (zrm 3 69 3028)).room.cells := fun n h => h
  have hsl : ∀ n, n ≤ 3028 → n ≤ (headSpec (.code yX4_init cX4_init 3 none :: zWS) (zrm 3 69 3028)).room.slots := fun n h => h
  have hw := (show zi_w RX4 cX4_init 3 = true by decide +kernel)
  simp only [zi_w, Bool.and_eq_true, decide_eq_true_eq] at hw
  obtain ⟨⟨⟨⟨d0, d1⟩, w1⟩, w2⟩, w3⟩ := hw
  have hw4 := zh_w4
  simp only [Bool.and_eq_true, decide_eq_true_eq] at hw4
  obtain ⟨⟨⟨⟨⟨⟨v1, v2⟩, v3⟩, v4⟩, v5⟩, v6⟩, v7⟩ := hw4
  refine lv_aload_n hx hb d0 rfl (lv_at hl 0 rfl) ?_
  refine W.objInit hx hb hown (hts _ w1) (hts _ w2) (hts _ w3) rfl (by rw [hml]; exact hl.1) rfl d1 (Nat.le_of_ble_eq_true rfl) (Nat.le_of_ble_eq_true rfl) ?_
  refine W.eq (g2 := F0 m 4 ls []) rfl ?_
  refine zn_chain (own := RX4) hx hb hts hown hin hK hA (lv_at hl 0 rfl) zNL4 4 (zDf 0) [] s.heap [] 0 0 (by decide +kernel) (zDf_len 0) hP hD hS (hcl _ (by decide)) (hsl _ (by decide)) (fun qs H1 locs1 hq hP1 hD1 hS1 => ?_)
  rw [zn_map qs hq] at hP1 hD1
  generalize (fun i => qs.getD i 0) = f at hP1 hD1
  obtain ⟨t, ht⟩ : ∃ t : Nat → Nat, ∀ k, t (k + 1) = f k := ⟨fun k => f (k - 1), fun k => rfl⟩
  have eT : zn_ar ca zNL4 ((List.range zNL4.length).map f) = zT4 ca t := by
    unfold zT4
    rw [ht 0, ht 1, ht 2, ht 3]
    rfl
  have eF : zn_fs zNL4 ((List.range zNL4.length).map f) (zDf 0) = [.ref (t 1), .ref (t 2), .ref (t 3), .ref (t 4), .null, .null, .null, .null, .null, .null, .int 0, .int 0, .int 0] := by
    rw [ht 0, ht 1, ht 2, ht 3]
    rfl
  rw [eT, eF, List.nil_append] at hP1 hD1
  refine W.eq (g2 := F0 m 37 ls []) rfl ?_
  refine W.widen (k := 4) (n := 456) (Nat.le_of_ble_eq_true rfl) (Nat.le_of_ble_eq_true rfl) ?_
  refine lv_aload_n hx hb (by decide +kernel : decode cX4_init 37 = .ok (.aload_n 0, 1)) rfl (lv_at hl 0 rfl) ?_
  refine zn_obj (ci := 1) (n1 := 2) (n2 := 400) (idx := 23) (j := 25) (y := yX1_init) (cy := cX1_init) (C := RX1) (T := TX1) (N := 6) (own := RX4) (nL := 3) hx hb hml hts hown hK hA hl.1 rfl (by decide) zh_w3.1 hl1 rfl rfl (by decide +kernel) hR (fun A q => zi_X1 l D ca A q) hP1 hD1 hS1 (Nat.le_of_ble_eq_true rfl) (hcl _ (by decide)) (hsl _ (by decide)) (by decide +kernel : decode cX4_init 38 = .ok (.new 23, 3)) (by decide +kernel : decode cX4_init 41 = .ok (.dup, 1)) (by decide +kernel : decode cX4_init 42 = .ok (.invokespecial 25, 3)) (fun aR H2 locs2 hP2 hD2 hS2 => ?_)
  refine zn_put (ty := .object RX1) (k := 5) (j := 26) (own := RX4) hx hb hts hown hin hK (fs := [.ref (t 1), .ref (t 2), .ref (t 3), .ref (t 4), .null, .null, .null, .null, .null, .null, .int 0, .int 0, .int 0]) (ar := zT4 ca t ++ zOb ca 1 aR) hP2 hD2 hS2 rfl (by decide +kernel) rfl rfl (by decide +kernel : decode cX4_init 45 = .ok (.putfield 26, 3)) (fun H3 locs3 hP3 hD3 hS3 => ?_)
  refine lv_aload_n hx hb (by decide +kernel : decode cX4_init 48 = .ok (.aload_n 0, 1)) rfl (lv_at hl 0 rfl) ?_
  refine zn_obj (ci := 2) (n1 := 7) (n2 := 210) (idx := 30) (j := 32) (y := yX0_init) (cy := cX0_init) (C := RX0) (T := TX0) (N := 8) (own := RX4) (nL := 3) hx hb hml hts hown hK hA hl.1 rfl (by decide) zh_w3.2 hl0 rfl rfl (by decide +kernel) hR (fun A q => zi_X0 l D ca A q) hP3 hD3 hS3 (Nat.le_of_ble_eq_true rfl) (hcl _ (by decide)) (hsl _ (by decide)) (by decide +kernel : decode cX4_init 49 = .ok (.new 30, 3)) (by decide +kernel : decode cX4_init 52 = .ok (.dup, 1)) (by decide +kernel : decode cX4_init 53 = .ok (.invokespecial 32, 3)) (fun aB H4 locs4 hP4 hD4 hS4 => ?_)
  refine zn_put (ty := .object RX0) (k := 6) (j := 33) (own := RX4) hx hb hts hown hin hK (fs := [.ref (t 1), .ref (t 2), .ref (t 3), .ref (t 4), .null, .ref (aR 0), .null, .null, .null, .null, .int 0, .int 0, .int 0]) (ar := (zT4 ca t ++ zOb ca 1 aR) ++ zOb ca 2 aB) hP4 hD4 hS4 rfl (by decide +kernel) rfl rfl (by decide +kernel : decode cX4_init 56 = .ok (.putfield 33, 3)) (fun H5 locs5 hP5 hD5 hS5 => ?_)
  have hP5 : va_P D zCL ((h0, .inr (0, [.ref (t 1), .ref (t 2), .ref (t 3), .ref (t 4), .null, .ref (aR 0), .ref (aB 0), .null, .null, .null, .int 0, .int 0, .int 0])) :: ((zT4 ca t ++ zOb ca 1 aR) ++ zOb ca 2 aB)) H5 := hP5
  have hD5 : va_D A ((h0, .inr (0, [.ref (t 1), .ref (t 2), .ref (t 3), .ref (t 4), .null, .ref (aR 0), .ref (aB 0), .null, .null, .null, .int 0, .int 0, .int 0])) :: ((zT4 ca t ++ zOb ca 1 aR) ++ zOb ca 2 aB)) := hD5
  rw [List.append_assoc] at hP5 hD5
  generalize hwx : zT4 ca t ++ (zOb ca 1 aR ++ zOb ca 2 aB) = wx at hP5 hD5
  refine va_new (ci := 5) (fs := [.null, .int 0]) (C := RX3) (T := TX3) (N := 2) hx hb hts (z_inFw (c := 5) rfl) (z_ty 5) (z_tyok (c := 5) rfl) hown (hts _ v1) (hts _ v2) (hts _ v3) hK hP5 hD5 hS5 hA rfl (fun j hj => by rcases (show j = 0 ∨ j = 1 by omega) with rfl | rfl <;> rfl) (hcl _ (by decide)) (hsl _ (by decide)) (by decide +kernel : decode cX4_init 59 = .ok (.new 37, 3)) (fun sc H6 hP6 hD6 hS6 => ?_)
  refine lv_dup hx hb (by decide +kernel : decode cX4_init 62 = .ok (.dup, 1)) rfl ?_
  refine lv_iconst (v := nI 0) hx hb (by decide +kernel : decode cX4_init 63 = .ok (.iconst 0, 1)) rfl ?_
  refine zn_new (N := 0) false hx hb hts hK hP6 hD6 hS6 hA (by decide) (hcl _ (by decide)) (hsl _ (by decide)) (by decide +kernel : decode cX4_init 64 = .ok (.newarray .int, 2)) (fun sa H7 hP7 hD7 hS7 => ?_)
  refine lv_iconst (v := 0) hx hb (by decide +kernel : decode cX4_init 66 = .ok (.iconst 0, 1)) rfl ?_
  rw [List.append_assoc] at hP7 hD7
  generalize hwy : (h0, (.inr (0, [.ref (t 1), .ref (t 2), .ref (t 3), .ref (t 4), .null, .ref (aR 0), .ref (aB 0), .null, .null, .null, .int 0, .int 0, .int 0]) : va_E)) :: wx = wy at hP7 hD7
  have hg7 : (wy ++ [(sc, (.inr (5, [.null, .int 0]) : va_E)), (sa, .inl (ca 0, 0, .inl (fun _ => 0)))])[wy.length]? = some (sc, .inr (5, [.null, .int 0])) := by
    rw [List.getElem?_append_right (Nat.le_refl _), Nat.sub_self]
    rfl
  have hone : va_P D zCL [(sc, .inr (5, [.null, .int 0]))] H7 := z_one (hP7 _ _ hg7)
  have hAq : A sc := hD7.2 _ _ hg7
  have hDo : va_D (fun x => x = sc ∨ H7.size ≤ x) [(sc, .inr (5, [.null, .int 0]))] := zD_iff.mpr ⟨by simp, fun q hq => by rw [List.mem_singleton] at hq; rw [hq]; exact Or.inl rfl⟩
  refine va_callv (va_runI (As := [.ref sa, .int 0]) (rest := [.ref sc]) (own := RX4) ⟨hx, hb, hml, hown, hts⟩ (zi_X3 l D ca (fun x => x = sc ∨ H7.size ≤ x) sc sa 0) (cwI 2 hts (z_goodV (own := RX4) (C := RX3) (j := 39) v5) rfl rfl rfl (hts _ v3) (hts _ v6) (hts _ v4) rfl (by decide +kernel) ⟨Nat.le_of_ble_eq_true rfl, Nat.le_of_ble_eq_true rfl⟩) ⟨zP3_blind, fun U hU hW => ⟨rfl, va_K.moved hW.alike hK, by rw [hU]; exact hone, hDo, fun x hx => Or.inr (by rw [hU] at hx; exact hx)⟩⟩ rfl rfl hl.1 rfl (lv_room (Nat.le_of_ble_eq_true rfl)) (by decide +kernel : decode cX4_init 67 = .ok (.invokespecial 39, 3)) ⟨hcl _ (by decide), hsl _ (by decide)⟩) hS7 (fun x _ hx => hx.elim (fun e => by rw [e]; exact hAq) (fun e => hA x (Nat.le_trans hS7.1 e))) (fun x hx => hx.elim (fun e => by rw [e]; exact hAq) (fun e => hA x (Nat.le_trans hS7.1 e))) (fun _ t8 H8 locs8 ht8 hvm8 _ hB8 hz8 hk8 hS8 => ?_)
  have hB8 : va_P D zCL [(sc, .inr (5, [.ref sa, .int 0]))] t8.heap := hB8
  rw [ht8] at hB8
  obtain ⟨hP8, hD8⟩ := zn_upd2 hP7 hD7 hk8 hB8
  refine lv_astore_n (lv' := [(1, .ref sc), (0, .ref h0)]) hx hb (by decide +kernel : decode cX4_init 70 = .ok (.astore_n 1, 1)) rfl hl (by decide) rfl (fun ls hl => ?_)
  refine lv_aload_n hx hb (by decide +kernel : decode cX4_init 71 = .ok (.aload_n 0, 1)) rfl (lv_at hl 1 rfl) ?_
  refine lv_bipush (v := 8) hx hb (by decide +kernel : decode cX4_init 72 = .ok (.bipush 8, 2)) rfl ?_
  refine va_newq (C := RX3) (N' := 8) hx hb hown (hts _ v1) hO3 hK hP8 hD8 hS8 hA (by decide) (by decide) (by decide) (hcl _ (by decide)) (hsl _ (by decide)) (by decide +kernel : decode cX4_init 74 = .ok (.anewarray 37, 3)) (fun sq cA H9 hK9 hP9 hD9 hS9 => ?_)
  have ecA := zn_caO (k := 3) hK9 rfl
  subst ecA
  subst hwy
  have hP9 : va_P D zCL ((h0, .inr (0, [.ref (t 1), .ref (t 2), .ref (t 3), .ref (t 4), .null, .ref (aR 0), .ref (aB 0), .null, .null, .null, .int 0, .int 0, .int 0])) :: ((wx ++ [(sc, .inr (5, [.ref sa, .int 0])), (sa, .inl (ca 0, 0, .inl (fun _ => 0)))]) ++ [(sq, .inl (ca 3, 8, zRf (fun _ => none)))])) H9 := hP9
  have hD9 : va_D A ((h0, .inr (0, [.ref (t 1), .ref (t 2), .ref (t 3), .ref (t 4), .null, .ref (aR 0), .ref (aB 0), .null, .null, .null, .int 0, .int 0, .int 0])) :: ((wx ++ [(sc, .inr (5, [.ref sa, .int 0])), (sa, .inl (ca 0, 0, .inl (fun _ => 0)))]) ++ [(sq, .inl (ca 3, 8, zRf (fun _ => none)))])) := hD9
  refine zn_put (ty := .array (.object RX3)) (k := 4) (j := 42) (own := RX4) hx hb hts hown hin hK hP9 hD9 hS9 rfl (by decide +kernel) rfl rfl (by decide +kernel : decode cX4_init 77 = .ok (.putfield 42, 3)) (fun Ha locsa hPa hDa hSa => ?_)
  have pm : List.Perm ((wx ++ ([(sc, .inr (5, [.ref sa, .int 0])), (sa, .inl (ca 0, 0, .inl (fun _ => 0)))] : va_W)) ++ ([(sq, .inl (ca 3, 8, zRf (fun _ => none)))] : va_W)) ((sc, .inr (5, [.ref sa, .int 0])) :: (sq, .inl (ca 3, 8, zRf (fun _ => none))) :: (sa, .inl (ca 0, 0, .inl (fun _ => 0))) :: wx : va_W) := by
    rw [List.append_assoc]
    exact (List.perm_append_comm).trans (List.Perm.cons _ (List.Perm.swap _ _ _))
  have hPa := zP_perm (List.Perm.cons _ pm) hPa
  have hDa := zD_perm (List.Perm.cons _ pm) hDa
  refine lv_iconst (v := nI 0) hx hb (by decide +kernel : decode cX4_init 80 = .ok (.iconst 0, 1)) rfl ?_
  refine lv_istore_n (lv' := [(2, .int (nI 0)), (1, .ref sc), (0, .ref h0)]) hx hb (by decide +kernel : decode cX4_init 81 = .ok (.istore_n 2, 1)) rfl hl (by decide) rfl (fun ls hl => ?_)
  have efn : (fun j : Nat => if j < 0 then some sc else none) = fun _ => none := by
    funext j
    rw [if_neg (by omega)]
  refine zh_loop1 (sc := sc) (sq := sq) hx hb hts hown hK rfl ((sa, .inl (ca 0, 0, .inl (fun _ => 0))) :: wx) (fun Hb locsb ls hPb hDb hSb hl => ?_) 8 0 Ha locsa ls rfl (by rw [efn]; exact hPa) (by rw [efn]; exact hDa) hSa (lv_sub hl [0, 2, 1] rfl)
  refine lv_aload_n hx hb (by decide +kernel : decode cX4_init 104 = .ok (.aload_n 0, 1)) rfl (lv_at hl 0 rfl) ?_
  refine lv_iconst (v := 2) hx hb (by decide +kernel : decode cX4_init 105 = .ok (.iconst 2, 1)) rfl ?_
  refine va_newq (C := RX2) (N' := 2) hx hb hown (hts _ v7) hO2 hK hPb hDb hSb hA (by decide) (by decide) (by decide) (hcl _ (by decide)) (hsl _ (by decide)) (by decide +kernel : decode cX4_init 106 = .ok (.anewarray 46, 3)) (fun wq cA Hc hKc hPc hDc hSc => ?_)
  have ecA := zn_caO (k := 2) hKc rfl
  subst ecA
  refine zn_put (ty := .array (.object RX2)) (k := 7) (j := 48) (own := RX4) hx hb hts hown hin hK hPc hDc hSc rfl (by decide +kernel) rfl rfl (by decide +kernel : decode cX4_init 109 = .ok (.putfield 48, 3)) (fun Hd locsd hPd hDd hSd => ?_)
  refine lv_aload_n hx hb (by decide +kernel : decode cX4_init 112 = .ok (.aload_n 0, 1)) rfl (lv_at hl 0 rfl) ?_
  refine lv_iconst (v := 2) hx hb (by decide +kernel : decode cX4_init 113 = .ok (.iconst 2, 1)) rfl ?_
  refine va_newq (C := RX2) (N' := 2) hx hb hown (hts _ v7) hO2 hK hPd hDd hSd hA (by decide) (by decide) (by decide) (hcl _ (by decide)) (hsl _ (by decide)) (by decide +kernel : decode cX4_init 114 = .ok (.anewarray 46, 3)) (fun tq cA He hKe hPe hDe hSe => ?_)
  have ecA := zn_caO (k := 2) hKe rfl
  subst ecA
  refine zn_put (ty := .array (.object RX2)) (k := 8) (j := 52) (own := RX4) hx hb hts hown hin hK hPe hDe hSe rfl (by decide +kernel) rfl rfl (by decide +kernel : decode cX4_init 117 = .ok (.putfield 52, 3)) (fun Hf locsf hPf hDf hSf => ?_)
  have hPf : va_P D zCL ((h0, .inr (0, [.ref (t 1), .ref (t 2), .ref (t 3), .ref (t 4), .ref sq, .ref (aR 0), .ref (aB 0), .ref wq, .ref tq, .null, .int 0, .int 0, .int 0])) :: ((((sc, .inr (5, [.ref sa, .int 0])) :: (sq, .inl (ca 3, 8, zRf (fun _ => some sc))) :: ((sa, .inl (ca 0, 0, .inl (fun _ => 0))) :: wx)) ++ [(wq, .inl (ca 2, 2, zRf (fun _ => none)))]) ++ [(tq, .inl (ca 2, 2, zRf (fun _ => none)))])) Hf := hPf
  have hDf : va_D A ((h0, .inr (0, [.ref (t 1), .ref (t 2), .ref (t 3), .ref (t 4), .ref sq, .ref (aR 0), .ref (aB 0), .ref wq, .ref tq, .null, .int 0, .int 0, .int 0])) :: ((((sc, .inr (5, [.ref sa, .int 0])) :: (sq, .inl (ca 3, 8, zRf (fun _ => some sc))) :: ((sa, .inl (ca 0, 0, .inl (fun _ => 0))) :: wx)) ++ [(wq, .inl (ca 2, 2, zRf (fun _ => none)))]) ++ [(tq, .inl (ca 2, 2, zRf (fun _ => none)))])) := hDf
  generalize hwz : ((sc, .inr (5, [.ref sa, .int 0])) :: (sq, .inl (ca 3, 8, zRf (fun _ => some sc))) :: ((sa, .inl (ca 0, 0, .inl (fun _ => 0))) :: wx) : va_W) = wz at hPf hDf
  have pm2 : List.Perm ((wz ++ ([(wq, .inl (ca 2, 2, zRf (fun _ => none)))] : va_W)) ++ ([(tq, .inl (ca 2, 2, zRf (fun _ => none)))] : va_W)) ((wq, .inl (ca 2, 2, zRf (fun _ => none))) :: (tq, .inl (ca 2, 2, zRf (fun _ => none))) :: wz : va_W) := by
    rw [List.append_assoc]
    exact List.perm_append_comm
  have hPf := zP_perm (List.Perm.cons _ pm2) hPf
  have hDf := zD_perm (List.Perm.cons _ pm2) hDf
  refine lv_iconst (v := nI 0) hx hb (by decide +kernel : decode cX4_init 120 = .ok (.iconst 0, 1)) rfl ?_
  refine lv_istore_n (lv' := [(2, .int (nI 0)), (0, .ref h0), (1, .ref sc)]) hx hb (by decide +kernel : decode cX4_init 121 = .ok (.istore_n 2, 1)) rfl hl (by decide) rfl (fun ls hl => ?_)
  refine zh_turn (i := 0) (wq := wq) (tq := tq) hx hb hml hts hown hK hA hl2 hR (by decide) rfl rfl wz hPf hDf hSf (lv_sub hl [0, 1] rfl) (hcl _ (by decide)) (hsl _ (by decide)) (fun r0 r2 Hg locsg ls hPg hDg hSg hl => ?_)
  refine zh_turn (i := 1) (wq := wq) (tq := tq) hx hb hml hts hown hK hA hl2 hR (by decide) rfl rfl _ hPg hDg hSg hl (hcl _ (by decide)) (hsl _ (by decide)) (fun r1 r3 Hh locsh ls hPh hDh hSh hl => ?_)
  refine lv_iload_n hx hb (by decide +kernel : decode cX4_init 122 = .ok (.iload_n 2, 1)) rfl (lv_at hl 0 rfl) ?_
  refine lv_iconst (v := 2) hx hb (by decide +kernel : decode cX4_init 123 = .ok (.iconst 2, 1)) rfl ?_
  refine lv_icmp_ge (tgt := 159) hx hb (by decide +kernel : decode cX4_init 124 = .ok (.if_icmp .ge 35, 3)) (by decide) (fun _ => ?_) (fun c1 => absurd (show (2 : Int32) ≤ nI (1 + 1) by decide) c1)
  refine zn_chain (own := RX4) hx hb hts hown hin hK hA (lv_at hl 1 rfl) [(30, 2, false, 9, 56)] 159 _ _ Hh locsh _ _ (by decide +kernel) rfl hPh hDh hSh (hcl _ (by decide)) (hsl _ (by decide)) (fun qs Hi locsi hqi hPi hDi hSi => ?_)
  rw [zn_map qs hqi] at hPi hDi
  subst hwz
  subst hwx
  refine W.widen (k := 69) (n := 3028) (Nat.le_of_ble_eq_true rfl) (Nat.le_of_ble_eq_true rfl) ?_
  refine W.vret hx hb hr (fun t9 ht9 hW => ⟨⟨fun c k => match c with
    | 0 => (match k with
      | 0 => h0
      | 5 => sq
      | 8 => wq
      | 9 => tq
      | 10 => qs.getD 0 0
      | k => t k)
    | 1 => aR k
    | 2 => aB k
    | 4 => r0 k
    | 5 => r1 k
    | 6 => r2 k
    | 7 => r3 k
    | _ => (match k with
      | 0 => sc
      | _ => sa), rfl, rfl, ?_, ?_⟩, hSi.F ht9⟩) hSi.2.2 (by decide +kernel : decode cX4_init 167 = .ok (.return_, 1))
  · rw [ht9]
    exact hPi
  · exact hDi
