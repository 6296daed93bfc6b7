/-! ===== constructors: objects in objects, Script ===== -/
theorem zn_join {D : va_G} {A : Nat → Prop} {ws wn : va_W} {H H1 : Heap} {h0 n0 : Nat} {e0 : va_E} (hP : va_P D zCL (ws ++ [(h0, e0)]) H) (hD : va_D A (ws ++ [(h0, e0)])) (hk : ∀ q : Nat, q < H.size → ¬ (q = h0 ∨ H.size ≤ q) → H1[q]? = H[q]?) (hA : ∀ q, n0 ≤ q → A q) (hn : n0 ≤ H.size) (hPn : va_P D zCL wn H1) (hDn : va_D (fun q => q = h0 ∨ H.size ≤ q) wn) : va_P D zCL (ws ++ wn) H1 ∧ va_D A (ws ++ wn) := by
  have hlen : (ws ++ [(h0, e0)])[ws.length]? = some (h0, e0) := by
    rw [List.getElem?_append_right (Nat.le_refl _), Nat.sub_self]
    rfl
  have hw : ∀ (k : Nat) (q : Nat × va_E), ws[k]? = some q → (ws ++ [(h0, e0)])[k]? = some q := fun k q h => by
    rw [List.getElem?_append_left (List.getElem?_eq_some_iff.mp h).1]
    exact h
  have hne : ∀ (k : Nat) (q : Nat × va_E), ws[k]? = some q → q.1 < H.size ∧ q.1 ≠ h0 := fun k q h => by
    refine ⟨(hP k q (hw k q h)).lt, fun e => ?_⟩
    have h1 := hD.1 k ws.length q (h0, e0) (hw k q h) hlen e
    have h2 := (List.getElem?_eq_some_iff.mp h).1
    omega
  have hA0 : A h0 := hD.2 _ _ hlen
  have hP1 : va_P D zCL ws H1 := fun k q h => (hP k q (hw k q h)).kept (hk q.1 (hne k q h).1 (by rintro (e | e); exact (hne k q h).2 e; have := (hne k q h).1; omega))
  refine ⟨hP1.app hPn, va_D.app ⟨fun i j p q hi hj e => hD.1 i j p q (hw i p hi) (hw j q hj) e, fun k q h => hD.2 k q (hw k q h)⟩ (hDn.weaken (fun k q _ hq => ?_)) (fun i j p q hi hj => ?_)⟩
  · rcases hq with e | e
    · rw [e]
      exact hA0
    · exact hA _ (by omega)
  · have h1 := hne i p hi
    rcases hDn.2 j q hj with e | e
    · rw [e]
      exact h1.2
    · omega
theorem zn_upd {D : va_G} {A : Nat → Prop} {ws : va_W} {H H1 : Heap} {h0 k0 : Nat} {e0 e1 : va_E} (hP : va_P D zCL ws H) (hD : va_D A ws) (h : ws[k0]? = some (h0, e0)) (hk : ∀ q : Nat, q < H.size → ¬ (q = h0 ∨ H.size ≤ q) → H1[q]? = H[q]?) (hn : va_P D zCL [(h0, e1)] H1) : va_P D zCL (ws.set k0 (h0, e1)) H1 ∧ va_D A (ws.set k0 (h0, e1)) := by
  have hl := (List.getElem?_eq_some_iff.mp h).1
  refine ⟨fun k q hq => ?_, hD.set h⟩
  by_cases e : k = k0
  · subst e
    rw [List.getElem?_set_self hl] at hq
    cases hq
    exact hn 0 _ rfl
  · rw [List.getElem?_set_ne (Ne.symm e)] at hq
    have h1 := hP k q hq
    refine h1.kept (hk q.1 h1.lt ?_)
    rintro (e2 | e2)
    · exact e (hD.1 k k0 q (h0, e0) hq h e2)
    · have := h1.lt
      omega
/-- an array of references by what it holds below its length -/
theorem zn_cg {D : va_G} {A : Nat → Prop} {ws : va_W} {H : Heap} {a k n : Nat} {cA : ClassId} {f f' : Nat → Option Nat} (hP : va_P D zCL ws H) (hD : va_D A ws) (hk : ws[k]? = some (a, .inl (cA, n, .inr (.inr (.inr (.inr f)))))) (hf : ∀ j, j < n → f' j = f j) : va_P D zCL (ws.set k (a, .inl (cA, n, .inr (.inr (.inr (.inr f')))))) H ∧ va_D A (ws.set k (a, .inl (cA, n, .inr (.inr (.inr (.inr f')))))) := by
  have hl := (List.getElem?_eq_some_iff.mp hk).1
  refine ⟨fun i q hq => ?_, hD.set hk⟩
  by_cases e : i = k
  · subst e
    rw [List.getElem?_set_self hl] at hq
    cases hq
    have h1 : H[a]? = some (vp_cell cA (n, .inr (.inr (.inr (.inr f))))) := hP i _ hk
    show H[a]? = some (vp_cell cA (n, .inr (.inr (.inr (.inr f')))))
    rw [h1]
    unfold vp_cell arrV
    dsimp only
    congr 3
    funext j
    rw [hf j.val j.isLt]
  · rw [List.getElem?_set_ne (Ne.symm e)] at hq
    exact hP i q hq
theorem zn_caO {D : va_G} {ca : Nat → ClassId} {s : State} {cA : ClassId} {k : Nat} {C : String} (h : va_K D zCL (zTL ca ++ [(cA, .object C)]) s) (hk : (zTL ca)[k]? = some (ca k, .object C)) : cA = ca k := by
  obtain ⟨_, _, _, _, _, h1⟩ := (h.2 4 (cA, .object C) rfl).2
  have hk2 : (zTL ca ++ [(cA, .object C)])[k]? = some (ca k, .object C) := by
    rw [List.getElem?_append_left (List.getElem?_eq_some_iff.mp hk).1]
    exact hk
  obtain ⟨_, _, _, _, _, h2⟩ := (h.2 k (ca k, .object C) hk2).2
  exact Option.some.inj (h1.symm.trans h2)
def zP3 (D : va_G) (ca : Nat → ClassId) (A : Nat → Prop) (h0 : Nat) (U : State) : Prop := va_K D zCL (zTL ca) U ∧ va_P D zCL [(h0, .inr (5, [.null, .int 0]))] U.heap ∧ va_D A [(h0, .inr (5, [.null, .int 0]))] ∧ ∀ q, U.heap.size ≤ q → A q
theorem zP3_blind {D : va_G} {ca : Nat → ClassId} {A : Nat → Prop} {h0 : Nat} {vs : List Value} : FrameBlind (va_Pc vs (zP3 D ca A h0)) := by
  intro a U g' mk h
  obtain ⟨h1, h2, h3, h4, h5⟩ := h
  exact ⟨h1, va_K.moved (u := U) (U := U.calling g' mk a) (Vm.Alike.refl U.vm) h2, h3, h4, h5⟩
theorem zi_w3 : (decide (Cond.methodLink RX3 1 Lib.objectInit ∈ zWS) && decide (Cond.instanceMethod Lib.objectInit ∈ zWS) && decide (Cond.code Lib.objectInit ⟨#[0xb1]⟩ 1 none ∈ zWS) && decide (Cond.fieldLink RX3 7 (TX3 0).1 (TX3 0).2.1 (TX3 0).2.2.1 ∈ zWS) && decide (Cond.fieldLink RX3 13 (TX3 1).1 (TX3 1).2.1 (TX3 1).2.2.1 ∈ zWS)) = true := by decide +kernel
theorem zi_X3 (l : Launch) (D : va_G) (ca : Nat → ClassId) (A : Nat → Prop) (h0 q : Nat) (v : Int32) : Met l yX3_init (.code yX3_init cX3_init 3 none :: zWS) (zrm 1 0 0) (va_Pc [.ref h0, .ref q, .int v] (zP3 D ca A h0)) (va_Qv (fun _ : Unit => True) (fun _ t => va_P D zCL [(h0, .inr (5, [.ref q, .int v]))] t.heap) A) 0 0 A := by
  refine Met.ofW (cc := cX3_init) (maxL := 3) (ret := none) (by decide +kernel) rfl ?_
  intro p e s m args below meth c s₁ B hml hv
  obtain ⟨rfl, hK, hP, hD, hA⟩ := hv
  have hx := B.exec
  have hb := B.bytes
  have hr := B.returns
  have hts : ∀ w ∈ zWS, w.before _ s = true := fun w hw => atoms_spec (ws := .code yX3_init cX3_init 3 none :: zWS) B.pre w (List.mem_cons_of_mem _ hw)
  have hown : s.vm.findClass RX3 = some m.cls := findClass_of_methodNamed B.named
  have hlocks := B.notSynchronized
  have hin : meth.name = "<init>" := (name_of_methodNamed B.named B.method).1
  have hS : va_S A s.heap s.heap [] := va_S.rf
  have hl := lv_entry ([.ref h0, .ref q, .int v]) (n := 3) (Nat.le_of_ble_eq_true rfl)
  rw [lg_entry_eq]
  generalize (lg_sl ([.ref h0, .ref q, .int v]) ++ List.replicate (3 - (lg_sl ([.ref h0, .ref q, .int v])).length) Slot.unset).toArray = ls at hl ⊢
  have hl : lv_has ls 3 [(0, .ref h0), (1, .ref q), (2, .int v)] := hl
  have hw := zi_w3
  simp only [Bool.and_eq_true, decide_eq_true_eq] at hw
  obtain ⟨⟨⟨⟨w1, w2⟩, w3⟩, w4⟩, w5⟩ := hw
  refine lv_aload_n hx hb (by decide +kernel : decode cX3_init 0 = .ok (.aload_n 0, 1)) rfl (lv_at hl 0 rfl) ?_
  refine W.objInit hx hb hown (hts _ w1) (hts _ w2) (hts _ w3) rfl (by rw [hml]; exact hl.1) rfl (by decide +kernel : decode cX3_init 1 = .ok (.invokespecial 1, 3)) (Nat.le_of_ble_eq_true rfl) (Nat.le_of_ble_eq_true rfl) ?_
  refine W.eq (g2 := F0 m 4 ls []) rfl ?_
  refine lv_aload_n hx hb (by decide +kernel : decode cX3_init 4 = .ok (.aload_n 0, 1)) rfl (lv_at hl 0 rfl) ?_
  refine lv_aload_n hx hb (by decide +kernel : decode cX3_init 5 = .ok (.aload_n 1, 1)) rfl (lv_at hl 1 rfl) ?_
  refine va_putF (D := D) (cl := zCL) (tys := zTL ca) (ci := 5) (C := RX3) (T := TX3) (N := 2) (ty := .array .int) hx hb hts (z_inFw (c := 5) rfl) (z_ty 5) (z_tyok (c := 5) rfl) (z_nmok (c := 5) rfl) hown hK hP hD hS 0 rfl rfl 0 (by decide) (hts _ w4) (fun _ h => h) rfl hin rfl (by decide +kernel) rfl rfl (Nat.le_of_ble_eq_true rfl) (by decide +kernel : decode cX3_init 6 = .ok (.putfield 7, 3)) (fun H1 locs1 hP1 hD1 hS1 => ?_)
  refine lv_aload_n hx hb (by decide +kernel : decode cX3_init 9 = .ok (.aload_n 0, 1)) rfl (lv_at hl 0 rfl) ?_
  refine lv_iload_n hx hb (by decide +kernel : decode cX3_init 10 = .ok (.iload_n 2, 1)) rfl (lv_at hl 2 rfl) ?_
  refine va_putF (D := D) (cl := zCL) (tys := zTL ca) (ci := 5) (C := RX3) (T := TX3) (N := 2) (ty := .int) hx hb hts (z_inFw (c := 5) rfl) (z_ty 5) (z_tyok (c := 5) rfl) (z_nmok (c := 5) rfl) hown hK hP1 hD1 hS1 0 rfl rfl 1 (by decide) (hts _ w5) (fun _ h => h) rfl hin rfl (by decide +kernel) rfl rfl (Nat.le_of_ble_eq_true rfl) (by decide +kernel : decode cX3_init 11 = .ok (.putfield 13, 3)) (fun H2 locs2 hP2 hD2 hS2 => ?_)
  exact W.vret hx hb hr (fun t ht hW => ⟨⟨(), rfl, trivial, by show va_P D zCL _ t.heap; rw [ht]; exact hP2⟩, hS2.F ht⟩) hS2.2.2 (by decide +kernel : decode cX3_init 14 = .ok (.return_, 1))
section Co
variable {p : Program} {l : Launch} {e : Env} {R : Room} {s : State} {m : MethodId} {args : Array Value} {below : List Frame} {meth : Method} {c : Code} {D : va_G} {ca : Nat → ClassId} {A : Nat → Prop} {Q : State → Prop} {cc : ByteArray} {own : String} {nL : Nat}
theorem zDf_ok : ∀ c, c < 6 → ∀ j, j < z_nf c → defaultValue (z_ty c j) = vp_V (zDf c) j := by
  intro c hc
  have key : ((List.range 6).all fun c => (List.range (z_nf c)).all fun j => match z_fk c j with
      | (0, _) => (match z_ty c j with
        | .int => true
        | .boolean => true
        | _ => false)
      | _ => (match z_ty c j with
        | .array _ => true
        | .object _ => true
        | _ => false)) = true := by decide +kernel
  intro j hj
  have h1 := List.all_eq_true.mp (List.all_eq_true.mp key c (List.mem_range.mpr hc)) j (List.mem_range.mpr hj)
  have h2 : vp_V (zDf c) j = (match z_fk c j with
    | (0, _) => .int 0
    | _ => .null) := by
    unfold vp_V zDf
    rw [List.getD_eq_getElem?_getD, List.getElem?_map, List.getElem?_range hj]
    rfl
  rw [h2]
  revert h1
  cases z_fk c j with
  | mk a b =>
    cases a with
    | zero =>
      cases z_ty c j <;> intro h1 <;> first | rfl | cases h1
    | succ a =>
      cases z_ty c j <;> intro h1 <;> first | rfl | cases h1
/-- a new object whose constructor makes its arrays -/
theorem zn_obj {ci n1 n2 idx j pc cells slots : Nat} {y : MethodName} {cy : ByteArray} {C : String} {T : u_T} {N : Nat} {ws : va_W} {H : Heap} {locs : List Loc} {ls : Array Slot} {rest : List Value} (hx : p.tables.exec = Jvm.exec) (hb : c.code = cc) (hml : c.maxLocals = nL) (hts : ∀ w ∈ zWS, w.before args s = true) (hown : s.vm.findClass own = some m.cls) (hK : va_K D zCL (zTL ca) s) (hA : ∀ q, s.heap.size ≤ q → A q) (hsz : ls.size = nL) (hci : zCL[ci]? = some (C, T, N)) (hc6 : ci < 6)
    (hw : (decide (Cond.classLink own idx C ∈ zWS) && decide (Cond.instantiable C N ∈ zWS) && decide (Cond.initialized C ∈ zWS) && decide (Cond.instanceMethod y ∈ zWS) && decide (Cond.code y cy 1 none ∈ zWS)) = true) (hl : va_Nw (.methodLinkNest own j y RX4) s) (hy : y.cls = C) (hyn : y.name = "<init>") (hyd : y.cls ≠ "java/lang/invoke/MethodHandle" ∧ y.cls ≠ "java/lang/invoke/VarHandle" ∧ (parseMethodDescriptor y.desc).map (fun d => d.parameters.length) = some 0) (hR : 2 ≤ R.frames ∧ 60 ≤ R.locals)
    (hM : ∀ (A : Nat → Prop) (q : Nat), Met l y (.code y cy 1 none :: zWS) (zrm 1 n1 n2) (va_Pc [.ref q] (zPi D ca A ci q)) (va_Qv (fun a : Nat → Nat => a 0 = q) (fun a t => va_P D zCL (zOb ca ci a) t.heap ∧ va_D A (zOb ca ci a)) A) n1 n2 A) (hP : va_P D zCL ws H) (hD : va_D A ws) (hS : va_S A s.heap H locs) (hrest : (rest.map fun v => v.category).sum ≤ 7) (hc : cells + 1 + n1 ≤ R.cells) (hs : slots + N + n2 ≤ R.slots) (d1 : decode cc pc = .ok (.new idx, 3)) (d2 : decode cc (pc + 3) = .ok (.dup, 1)) (d3 : decode cc (pc + 3 + 1) = .ok (.invokespecial j, 3))
    (kk : ∀ (a : Nat → Nat) (H1 : Heap) (locs1 : List Loc), va_P D zCL (ws ++ zOb ca ci a) H1 → va_D A (ws ++ zOb ca ci a) → va_S A s.heap H1 locs1 → W p l e R s m args below meth c H1 locs1 (cells + 1 + n1) (slots + N + n2) Q (F0 m (pc + 3 + 1 + 3) ls (.ref (a 0) :: rest))) : W p l e R s m args below meth c H locs cells slots Q (F0 m pc ls rest) := by
  simp only [Bool.and_eq_true, decide_eq_true_eq] at hw
  obtain ⟨⟨⟨⟨w1, w2⟩, w3⟩, w4⟩, w5⟩ := hw
  have hNf : N = z_nf ci := z_nfok hci
  refine va_new (ci := ci) (fs := zDf ci) (C := C) (T := T) (N := N) hx hb hts (z_inFw hci) (z_ty ci) (z_tyok hci) hown (hts _ w1) (hts _ w2) (hts _ w3) hK hP hD hS hA hci (fun j hj => zDf_ok ci hc6 j (by rw [← hNf]; exact hj)) (by omega) (by omega) d1 (fun q H1 hP1 hD1 hS1 => ?_)
  refine lv_dup hx hb d2 rfl ?_
  have hone : va_P D zCL [(q, .inr (ci, zDf ci))] H1 := z_one (hP1 ws.length _ (by rw [List.getElem?_append_right (Nat.le_refl _), Nat.sub_self]; rfl))
  have hAq : A q := hD1.2 ws.length (q, .inr (ci, zDf ci)) (by rw [List.getElem?_append_right (Nat.le_refl _), Nat.sub_self]; rfl)
  have hDo : va_D (fun x => x = q ∨ H1.size ≤ x) [(q, .inr (ci, zDf ci))] := ⟨fun i j p' q' hi hj _ => by
      have h1 := (List.getElem?_eq_some_iff.mp hi).1
      have h2 := (List.getElem?_eq_some_iff.mp hj).1
      simp only [List.length_cons, List.length_nil] at h1 h2
      omega, fun k x hk => by
      match k, hk with
      | 0, hk => cases hk; exact Or.inl rfl
      | k + 1, hk => simp at hk⟩
  refine va_callv (va_runIN (As := []) (rest := .ref q :: rest) (own := own) (host := RX4) ⟨hx, hb, hml, hown, hts⟩ (hM (fun x => x = q ∨ H1.size ≤ x) q) ⟨va_cnB 0 hts (z_goodV (own := own) (C := C) (j := j) w5) rfl rfl rfl hl (by rw [hy]; exact hts _ w3) hyd ⟨hR.1, by show 8 + (1 + 11) + 40 * 1 ≤ R.locals; omega⟩, hyn, hts _ w4⟩ ⟨zPi_blind, fun U hU hW => ⟨rfl, va_K.moved hW.alike hK, by rw [hU]; exact hone, hDo, fun x hx => Or.inr (by rw [hU] at hx; exact hx)⟩⟩ rfl rfl hsz rfl (lv_room (by simp only [List.map_cons, List.sum_cons]; show 1 + _ ≤ 8; omega)) d3 ⟨by omega, by omega⟩) hS1 (fun x _ hx => hx.elim (fun e => by rw [e]; exact hAq) (fun e => hA x (Nat.le_trans hS1.1 e))) (fun x hx => hx.elim (fun e => by rw [e]; exact hAq) (fun e => hA x (Nat.le_trans hS1.1 e))) (fun a t H2 locs2 ht hvm hw hB hz2 hk2 hS2 => ?_)
  obtain ⟨hB1, hB2⟩ := hB
  rw [ht] at hB1
  obtain ⟨hPj, hDj⟩ := zn_join hP1 hD1 hk2 hA hS1.1 hB1 hB2
  have h := kk a H2 locs2 hPj hDj hS2
  rw [hw] at h
  exact h
end Co
