/-! ===== the law: a case ===== -/
def la_call (pc0 n jw jm : Nat) (isB : Bool) : Bool := decide (decode code pc0 = .ok (.aload_n 1, 1)) && la_args (pc0 + 1) ((List.range n).map (· + 1)) && decide (decode code (pc0 + 1 + 6 * n) = .ok (.aload_n 3, 1)) && decide (decode code (pc0 + 2 + 6 * n) = .ok (.invokestatic jw, 3)) && decide (decode code (pc0 + 5 + 6 * n) = .ok (.istore 5, 2)) && decide (decode code (pc0 + 7 + 6 * n) = .ok (.aload_n 2, 1)) && la_args (pc0 + 8 + 6 * n) ((List.range n).map (· + 1)) && decide (decode code (pc0 + 8 + 12 * n) = .ok (.invokevirtual jm, 3)) && (bif isB then la_tailB (pc0 + 11 + 12 * n) else la_tailI (pc0 + 11 + 12 * n))
section Lb
variable {p : Program} {l : Launch} {e : Env} {s : State} {m : MethodId} {below : List Frame} {meth : Method} {c : Code} {b L i ao : Nat} {xs : Nat → Int32} {D : va_G} {ca : Nat → ClassId} {ad : zAD} {g : zSG} {H : Heap} {locs : List Loc} {cells slots : Nat} {ls : Array Slot} {cJ : ClassId} {f : Nat → Int64}
theorem q_rel_good {em : Nat → Nat} {b th : Int32} {rx : Option zVV ⊕ Nat} (h : q_rel em b th rx) : zGood em rx := by
  match rx, h with
  | .inl (some (.inl _)), _ => trivial
  | .inr k, h => exact h.1
/-- the words of a wrapper, of a reference's method -/
def la_ww (jw : Nat) (yL : MethodName) (cL : ByteArray) (mL : Nat) (hh : List (Nat × Nat × Nat × Nat)) : Bool := decide (Cond.methodLink RL jw yL ∈ zWS) && decide (Cond.static yL ∈ zWS) && decide (Cond.initialized yL.cls ∈ zWS) && decide (Cond.codeWith yL cL mL (some .int) hh ∈ zWS)
def la_wm (jm : Nat) (yM : MethodName) : Bool := decide (Cond.methodLink RL jm yM ∈ zWS) && decide (Cond.instanceMethod yM ∈ zWS) && decide (Cond.selects RX5 yM yM ∈ zWS) && decide (Cond.initialized RX5 ∈ zWS)
theorem la_goodS {own : String} {j : Nat} {y : MethodName} {bytes : ByteArray} {maxL : Nat} {ret : Option FieldType} {hh : List (Nat × Nat × Nat × Nat)} (h1 : Cond.codeWith y bytes maxL ret hh ∈ zWS) (h2 : Cond.methodLink own j y ∈ zWS) (h3 : Cond.static y ∈ zWS) (h4 : Cond.initialized y.cls ∈ zWS) : GoodIn zWS (va_wsS own j y (.codeWith y bytes maxL ret hh :: zWS)) := by
  intro w hw
  unfold va_wsS at hw
  simp only [List.cons_append, List.nil_append, List.mem_cons] at hw
  rcases hw with rfl | rfl | rfl | rfl | hw
  · exact zWS_in _ h2
  · exact zWS_in _ h3
  · exact zWS_in _ h4
  · exact zWS_in _ h1
  · exact zWS_in _ hw
theorem la_try (isB : Bool) {em : Nat → Nat} {cv : Int32 → Int64} {FX FM : List zVV → zSG → Option zRR} {yL yM : MethodName} {cL cM : ByteArray} {mLw mLm dM jw jm pc0 nP : Nat} {rt : FieldType} {hh : List (Nat × Nat × Nat × Nat)} (hcv : ∀ w, cv w = (bif isB then zBo w else w.toInt64)) (hem : ∀ x, em x ≤ 2) (vals : List Int32)
    (hW : ∀ (D : va_G) (ca : Nat → ClassId) (ad : zAD) (A : Nat → Prop) (g : zSG) (ao : Nat) (cJ : ClassId) (f : Nat → Int64) (r : zRR), FX (.inr (.inl (0, 0, 0)) :: vals.map .inl) g = some r → zGood em r.1 → vx_Met l yL (.codeWith yL cL mLw (some .int) hh :: zWS) (zrm 90 6 430) (va_Pc (.ref (ad 0 0 0) :: (vals.map Value.int ++ [.ref ao])) (zPw D ca ad A g ao cJ f)) (zQw D ca ad A r.2 ao cJ r.1 em cv) (fun _ _ _ => False) 6 430 A)
    (hww : la_ww jw yL cL mLw hh = true) (hdw : yL.cls ≠ "java/lang/invoke/MethodHandle" ∧ yL.cls ≠ "java/lang/invoke/VarHandle" ∧ (parseMethodDescriptor yL.desc).map (fun d => d.parameters.length) = some (nP + 2)) (hmw : mLw ≤ 20) (hvl : vals.length = nP)
    (hM : zCt l yM cM mLm (some rt) (zrm dM 0 0) FM) (hwm : la_wm jm yM = true) (hcm : Cond.code yM cM mLm (some rt) ∈ zWS) (hyM : yM.cls = RX5) (hdm : yM.cls ≠ "java/lang/invoke/MethodHandle" ∧ yM.cls ≠ "java/lang/invoke/VarHandle" ∧ (parseMethodDescriptor yM.desc).map (fun d => d.parameters.length) = some nP) (hdM : dM ≤ 60 ∧ mLm ≤ 20) (hsim : q_sim em FX FM (vals.map .inl))
    (C0 : lw_At p s m meth c b L xs) (hK : va_K D zCL (zTL ca) s) (hKJ : va_K D zCL [(cJ, .long)] s) (hE : zE0 ad (fun q => s.heap.size ≤ q) s s.heap) (hN1 : va_Nc (zEx 0) (zEx 2) s) (hN2 : va_Nc (zEx 0) (zEx 1) s) (hS : va_S (fun q => s.heap.size ≤ q) s.heap H locs) (hLI : zLI D ca ad (fun q => s.heap.size ≤ q) g H) (hO : zLO D ad (fun q => s.heap.size ≤ q) ao cJ f H) (hg : q_I g) (hls : lv_has ls 7 (zLS5 ad b ao i)) (hc : cells + 6 ≤ 601024) (hs : slots + 430 ≤ 7293034)
    (d0 : decode code pc0 = .ok (.aload_n 1, 1)) {pa pb : Nat} (da : decode code pa = .ok (.aload_n 3, 1)) (da1 : decode code (pa + 1) = .ok (.invokestatic jw, 3)) (da4 : decode code (pa + 4) = .ok (.istore 5, 2)) (da6 : decode code (pa + 6) = .ok (.aload_n 2, 1)) (db : decode code pb = .ok (.invokevirtual jm, 3)) (hok : (bif isB then la_tailB (pb + 3) else la_tailI (pb + 3)) = true)
    (hp1 : ∀ (H : Heap) (locs : List Loc) (cells slots : Nat) (ls : Array Slot) (st : List Value), va_S (fun q => s.heap.size ≤ q) s.heap H locs → ls[0]? = some (.val (.ref b)) → ls[4]? = some (.val (.int (nI i))) → W p l e room_1 s m #[Value.ref b] below meth c H locs cells slots (lw_Z below #[Value.ref b] s) (F0 m pa ls ((vals.map Value.int).reverse ++ st)) → W p l e room_1 s m #[Value.ref b] below meth c H locs cells slots (lw_Z below #[Value.ref b] s) (F0 m (pc0 + 1) ls st))
    (hp2 : ∀ (H : Heap) (locs : List Loc) (cells slots : Nat) (ls : Array Slot) (st : List Value), va_S (fun q => s.heap.size ≤ q) s.heap H locs → ls[0]? = some (.val (.ref b)) → ls[4]? = some (.val (.int (nI i))) → W p l e room_1 s m #[Value.ref b] below meth c H locs cells slots (lw_Z below #[Value.ref b] s) (F0 m pb ls ((vals.map Value.int).reverse ++ st)) → W p l e room_1 s m #[Value.ref b] below meth c H locs cells slots (lw_Z below #[Value.ref b] s) (F0 m (pa + 7) ls st))
    (kk : ∀ (ad' : zAD) (g' : zSG) (f' : Nat → Int64) (H1 : Heap) (locs1 : List Loc) (ls1 : Array Slot), zAe ad ad' → q_I g' → zLI D ca ad' (fun q => s.heap.size ≤ q) g' H1 → zLO D ad' (fun q => s.heap.size ≤ q) ao cJ f' H1 → va_S (fun q => s.heap.size ≤ q) s.heap H1 locs1 → lv_has ls1 7 (zLS5 ad' b ao i) → W p l e room_1 s m #[Value.ref b] below meth c H1 locs1 (cells + 6) (slots + 430) (lw_Z below #[Value.ref b] s) (F0 m 1642 ls1 [])) : W p l e room_1 s m #[Value.ref b] below meth c H locs cells slots (lw_Z below #[Value.ref b] s) (F0 m pc0 ls []) := by
  obtain ⟨hx, hb, hr, hml, hown, hts, hX, hbl, hlocks, hgv⟩ := id C0
  have htz := zWS_of hts
  have hA : ∀ q, s.heap.size ≤ q → (fun q => s.heap.size ≤ q) q := fun _ h => h
  obtain ⟨rx, g1, bv, g2, eX, eM, hrel, hg2⟩ := hsim g hg
  simp only [la_ww, Bool.and_eq_true, decide_eq_true_eq] at hww
  obtain ⟨⟨⟨w1, w2⟩, w3⟩, w4⟩ := hww
  refine lv_aload_n hx hb d0 rfl (lv_at hls 2 rfl) ?_
  refine hp1 H locs cells slots ls _ hS (lv_at hls 1 rfl) (lv_at hls 0 rfl) ?_
  refine lv_aload_n hx hb da rfl (lv_at hls 4 rfl) ?_
  refine la_wrap (vx_runSX (As := .ref (ad 0 0 0) :: (vals.map Value.int ++ [.ref ao])) (rest := []) (n := nP + 2) (own := RL) ⟨hx, hb, hml, hown, htz⟩ (hW D ca ad (fun q => s.heap.size ≤ q) g ao cJ f (rx, g1) eX (q_rel_good hrel)) (vx_cwSW (nP + 2) htz (la_goodS w4 w1 w2 w3) rfl rfl rfl hdw ⟨Nat.le_of_ble_eq_true rfl, by show 8 + (mLw + 11) + 40 * 90 ≤ 84000; omega⟩) ⟨zPw_blind, fun U hU hWm => ⟨rfl, va_K.moved hWm.alike hK, va_K.moved hWm.alike hKJ, by rw [hU]; exact hLI, by rw [hU]; exact hO, fun q hq => by
      have := hS.1
      rw [hU] at hq
      show s.heap.size ≤ q
      omega, by rw [hU]; exact (hE.kept hS.2.1).warm hWm, hN1.moved hWm.alike, hN2.moved hWm.alike⟩⟩ rfl (by simp [hvl]) hls.1 (by show _ = (Value.ref (ad 0 0 0) :: (vals.map Value.int ++ [.ref ao])).reverse ++ []; simp) (lv_room (Nat.le_of_ble_eq_true rfl)) da1 ⟨hc, hs⟩) hS (fun k ad1 f1 H1 locs1 hae hL1 hO1 hk1 hS1 => ?_)
  refine lv_istore (lv' := (5, .int k) :: zLS5 ad b ao i) hx hb da4 hls (by decide) rfl (fun ls hls => ?_)
  have els : zLS5 ad b ao i = zLS5 ad1 b ao i := by
    unfold zLS5
    rw [hae 0 0 0 (by decide), hae 3 0 0 (by decide)]
  rw [els] at hls
  refine lv_aload_n hx hb da6 rfl (lv_at hls 4 rfl) ?_
  refine hp2 H1 locs1 _ _ ls _ hS1 (lv_at hls 2 rfl) (lv_at hls 1 rfl) ?_
  have hE1 := hE.ad hae
  refine zl_run (r := (.inl (some (.inl bv)), g2)) (zl_rV (ad := ad1) (cn := 3) (i := 0) (n := nP) (vs := vals.map .inl) (rest := []) (C := RX5) hM hwm hcm hyM hdm ⟨by show dM + 1 ≤ 2048; omega, by show 8 + (mLm + 11) + 40 * dM ≤ 84000; omega⟩ rfl (by decide) (by decide) ⟨hx, hb, hml, hown, htz⟩ hK hE1 hA hS1 hL1 eM (by simp [hvl]) (by rw [List.map_map]; rfl) (Nat.le_of_ble_eq_true rfl) hls.1 db ⟨by show cells + 6 + 0 ≤ 601024; omega, by show slots + 430 + 0 ≤ 7293034; omega⟩) hA hS1 hL1 (fun vv hvv _ H2 locs2 hL2 hS2 hk2 => ?_) (fun k hk => nomatch hk)
  cases hvv
  have hO2 := zw_O hO1 hL1 hk2 (fun _ _ _ _ => rfl) (fun q _ => Or.inl rfl)
  refine la_tail isB (v := bv) (rx := rx) (em := em) C0 hem hok hK hKJ hE1 hS2 hL2 hO2 ?_ hrel hls (by show cells + 6 + 0 ≤ 601024; omega) (by show slots + 430 + 0 ≤ 7293034; omega) (fun H3 locs3 ls3 hL3 hO3 hS3 hl3 => kk ad1 g2 f1 H3 locs3 ls3 hae hg2 hL3 hO3 hS3 hl3)
  rcases hk1 with ⟨w, e1, e2, e3⟩ | h9
  · exact Or.inl ⟨w, e1, e2, by rw [e3, hcv]⟩
  · exact Or.inr h9
/-- two calls whose answers are held together at once -/
theorem la_dir {FX FM : List zVV → zSG → Option zRR} {yX yM : MethodName} {cX cM : ByteArray} {mLx mLm dX dM jx jm pc0 nP : Nat} (vals : List Int32) (hvl : vals.length = nP)
    (hX5 : zCt l yX cX mLx (some .int) (zrm dX 0 0) FX) (hwx : (decide (Cond.methodLink RL jx yX ∈ zWS) && decide (Cond.instanceMethod yX ∈ zWS) && decide (Cond.selects RX4 yX yX ∈ zWS) && decide (Cond.initialized RX4 ∈ zWS)) = true) (hcx : Cond.code yX cX mLx (some .int) ∈ zWS) (hyX : yX.cls = RX4) (hdx : yX.cls ≠ "java/lang/invoke/MethodHandle" ∧ yX.cls ≠ "java/lang/invoke/VarHandle" ∧ (parseMethodDescriptor yX.desc).map (fun d => d.parameters.length) = some nP) (hdX : dX ≤ 60 ∧ mLx ≤ 20)
    (hM : zCt l yM cM mLm (some .int) (zrm dM 0 0) FM) (hwm : la_wm jm yM = true) (hcm : Cond.code yM cM mLm (some .int) ∈ zWS) (hyM : yM.cls = RX5) (hdm : yM.cls ≠ "java/lang/invoke/MethodHandle" ∧ yM.cls ≠ "java/lang/invoke/VarHandle" ∧ (parseMethodDescriptor yM.desc).map (fun d => d.parameters.length) = some nP) (hdM : dM ≤ 60 ∧ mLm ≤ 20) (hsim : q_sim (fun _ => 0) FX FM (vals.map .inl))
    (C0 : lw_At p s m meth c b L xs) (hK : va_K D zCL (zTL ca) s) (hE : zE0 ad (fun q => s.heap.size ≤ q) s s.heap) (hS : va_S (fun q => s.heap.size ≤ q) s.heap H locs) (hLI : zLI D ca ad (fun q => s.heap.size ≤ q) g H) (hO : zLO D ad (fun q => s.heap.size ≤ q) ao cJ f H) (hg : q_I g) (hls : lv_has ls 7 (zLS5 ad b ao i)) (hc : cells + 6 ≤ 601024) (hs : slots + 430 ≤ 7293034)
    (d0 : decode code pc0 = .ok (.aload_n 1, 1)) {pa pb : Nat} {off : Int} (da : decode code pa = .ok (.invokevirtual jx, 3)) (da3 : decode code (pa + 3) = .ok (.aload_n 2, 1)) (db : decode code pb = .ok (.invokevirtual jm, 3)) (db3 : decode code (pb + 3) = .ok (.if_icmp .eq off, 3)) (hoff : ((pb + 3 : Nat) : Int) + off = ((1642 : Nat) : Int))
    (hp1 : ∀ (H : Heap) (locs : List Loc) (cells slots : Nat) (ls : Array Slot) (st : List Value), va_S (fun q => s.heap.size ≤ q) s.heap H locs → ls[0]? = some (.val (.ref b)) → ls[4]? = some (.val (.int (nI i))) → W p l e room_1 s m #[Value.ref b] below meth c H locs cells slots (lw_Z below #[Value.ref b] s) (F0 m pa ls ((vals.map Value.int).reverse ++ st)) → W p l e room_1 s m #[Value.ref b] below meth c H locs cells slots (lw_Z below #[Value.ref b] s) (F0 m (pc0 + 1) ls st))
    (hp2 : ∀ (H : Heap) (locs : List Loc) (cells slots : Nat) (ls : Array Slot) (st : List Value), va_S (fun q => s.heap.size ≤ q) s.heap H locs → ls[0]? = some (.val (.ref b)) → ls[4]? = some (.val (.int (nI i))) → W p l e room_1 s m #[Value.ref b] below meth c H locs cells slots (lw_Z below #[Value.ref b] s) (F0 m pb ls ((vals.map Value.int).reverse ++ st)) → W p l e room_1 s m #[Value.ref b] below meth c H locs cells slots (lw_Z below #[Value.ref b] s) (F0 m (pa + 4) ls st))
    (kk : ∀ (ad' : zAD) (g' : zSG) (f' : Nat → Int64) (H1 : Heap) (locs1 : List Loc) (ls1 : Array Slot), zAe ad ad' → q_I g' → zLI D ca ad' (fun q => s.heap.size ≤ q) g' H1 → zLO D ad' (fun q => s.heap.size ≤ q) ao cJ f' H1 → va_S (fun q => s.heap.size ≤ q) s.heap H1 locs1 → lv_has ls1 7 (zLS5 ad' b ao i) → W p l e room_1 s m #[Value.ref b] below meth c H1 locs1 (cells + 6) (slots + 430) (lw_Z below #[Value.ref b] s) (F0 m 1642 ls1 [])) : W p l e room_1 s m #[Value.ref b] below meth c H locs cells slots (lw_Z below #[Value.ref b] s) (F0 m pc0 ls []) := by
  obtain ⟨hx, hb, hr, hml, hown, hts, hX, hbl, hlocks, hgv⟩ := id C0
  have htz := zWS_of hts
  have hA : ∀ q, s.heap.size ≤ q → (fun q => s.heap.size ≤ q) q := fun _ h => h
  obtain ⟨rx, g1, bv, g2, eX, eM, hrel, hg2⟩ := hsim g hg
  obtain ⟨v, hrx, hvb⟩ : ∃ v : Int32, rx = .inl (some (.inl v)) ∧ v = bv := by
    match rx, hrel with
    | .inl (some (.inl v)), hrel => exact ⟨v, rfl, hrel.2⟩
    | .inr k, hrel => exact absurd rfl hrel.1
  subst hrx
  subst hvb
  refine lv_aload_n hx hb d0 rfl (lv_at hls 2 rfl) ?_
  refine hp1 H locs cells slots ls _ hS (lv_at hls 1 rfl) (lv_at hls 0 rfl) ?_
  refine zl_run (r := (.inl (some (.inl v)), g1)) (zl_rV (cn := 0) (i := 0) (n := nP) (vs := vals.map .inl) (rest := []) (C := RX4) hX5 hwx hcx hyX hdx ⟨by show dX + 1 ≤ 2048; omega, by show 8 + (mLx + 11) + 40 * dX ≤ 84000; omega⟩ rfl (by decide) (by decide) ⟨hx, hb, hml, hown, htz⟩ hK hE hA hS hLI eX (by simp [hvl]) (by rw [List.map_map]; rfl) (Nat.le_of_ble_eq_true rfl) hls.1 da ⟨by show cells + 0 ≤ 601024; omega, by show slots + 0 ≤ 7293034; omega⟩) hA hS hLI (fun vv hvv _ H1 locs1 hL1 hS1 hk1 => ?_) (fun k hk => nomatch hk)
  cases hvv
  have hO1 := zw_O hO hLI hk1 (fun _ _ _ _ => rfl) (fun q _ => Or.inl rfl)
  refine lv_aload_n hx hb da3 rfl (lv_at hls 3 rfl) ?_
  refine hp2 H1 locs1 _ _ ls _ hS1 (lv_at hls 1 rfl) (lv_at hls 0 rfl) ?_
  refine zl_run (r := (.inl (some (.inl v)), g2)) (zl_rV (cn := 3) (i := 0) (n := nP) (vs := vals.map .inl) (rest := [.int v]) (C := RX5) hM hwm hcm hyM hdm ⟨by show dM + 1 ≤ 2048; omega, by show 8 + (mLm + 11) + 40 * dM ≤ 84000; omega⟩ rfl (by decide) (by decide) ⟨hx, hb, hml, hown, htz⟩ hK hE hA hS1 hL1 eM (by simp [hvl]) (by rw [List.map_map]; rfl) (Nat.le_of_ble_eq_true rfl) hls.1 db ⟨by show cells + 0 + 0 ≤ 601024; omega, by show slots + 0 + 0 ≤ 7293034; omega⟩) hA hS1 hL1 (fun vv hvv _ H2 locs2 hL2 hS2 hk2 => ?_) (fun k hk => nomatch hk)
  cases hvv
  have hO2 := zw_O hO1 hL1 hk2 (fun _ _ _ _ => rfl) (fun q _ => Or.inl rfl)
  show W p l e room_1 s m _ below meth c H2 locs2 _ _ _ (F0 m (pb + 3) ls (.int v :: .int v :: []))
  refine lv_icmp_eq (tgt := 1642) hx hb db3 hoff (fun _ => ?_) (fun b1 => absurd rfl b1)
  refine W.widen (k := cells + 6) (n := slots + 430) (by show cells + 0 + 0 ≤ cells + 6; omega) (by show slots + 0 + 0 ≤ slots + 430; omega) ?_
  exact kk ad g2 f H2 locs2 ls (fun _ _ _ _ => rfl) hg2 hL2 hO2 hS2 hls
end Lb
