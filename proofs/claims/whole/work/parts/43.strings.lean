/-! ===== String.length, String.charAt over the words of the texts ===== -/
def zPu (l : Launch) (y : MethodName) (bytes : ByteArray) (maxL : Nat) (ret : Option FieldType) (d : Nat) (vs : List Value) (Pre : State → Prop) (r : Option Value) : Prop :=
  Met l y (.code y bytes maxL ret :: zWS) (zrm d 0 0) (va_Pc vs Pre) (fun _ st o t => o = .returned r ∧ t.heap = st.heap) 0 0 (fun _ => False)
theorem zPu_of {l : Launch} {y : MethodName} {cc : ByteArray} {nL : Nat} {ret : Option FieldType} {d : Nat} {vs : List Value} {Pre : State → Prop} {r : Option Value} {own : String} (hy : plainName y.cls = true) (hown : y.cls = own) (hlen : (lg_sl vs).length ≤ nL)
    (body : ∀ (p : Program) (e : Env) (s : State) (m : MethodId) (below : List Frame) (meth : Method) (c : Code), CallFix p m c cc nL s vs.toArray zWS own → meth.sig.returnType = ret → meth.locks = false → Pre s → ∀ ls : Array Slot, lv_has ls nL (lv_args 0 vs) →
      W p l e (zrm d 0 0) s m vs.toArray below meth c s.heap [] 0 0 (MQ below (fun _ st o t => o = .returned r ∧ t.heap = st.heap) vs.toArray s 0 0 (fun _ => False)) (F0 m 0 ls [])) : zPu l y cc nL ret d vs Pre r := by
  refine Met.ofW hy rfl ?_
  intro p e s m args below meth c s₁ B hml hv
  obtain ⟨rfl, hp⟩ := hv
  have hts : ∀ w ∈ zWS, w.before vs.toArray s = true := fun w hw => atoms_spec (ws := .code y cc nL ret :: zWS) B.pre w (List.mem_cons_of_mem _ hw)
  rw [lg_entry_eq]
  exact body p e s m below meth c ⟨B.exec, B.bytes, hml, by rw [← hown]; exact findClass_of_methodNamed B.named, hts⟩ B.returns B.notSynchronized hp _ (lv_entry vs hlen)
section Pc
variable {p : Program} {l : Launch} {e : Env} {R : Room} {s : State} {m : MethodId} {args : Array Value} {below : List Frame} {meth : Method} {c : Code} {H : Heap} {locs : List Loc} {cells slots : Nat} {Q : State → Prop} {cc : ByteArray} {pc nL : Nat} {ls : Array Slot} {rest : List Value} {own : String} {y : MethodName} {bytes : ByteArray} {maxL : Nat} {ret : Option FieldType} {d : Nat} {Pre : State → Prop} {r : Option Value} {vs : List Value} {j n : Nat}
theorem z_pcB {st0 : List Value} (hr : va_Run p l e R s m args below meth c H locs cells slots 0 0 (F0 m pc ls st0) rest (fun st o t => o = .returned r ∧ t.heap = st.heap) (fun _ => False)) (hk : W p l e R s m args below meth c H locs cells slots Q (F0 m (pc + 3) ls (r.toList ++ rest))) : W p l e R s m args below meth c H locs cells slots Q (F0 m pc ls st0) := by
  intro T hT X
  obtain ⟨v, st₀, t, T', L, h0, X', hL, e1, e2, ⟨hv, hh⟩, st⟩ := hr T hT X
  cases hv
  have hLe : L = [] := List.eq_nil_iff_forall_not_mem.mpr (fun q hq => hL q hq)
  subst hLe
  rw [List.append_nil] at X'
  obtain ⟨t2, a1, b1⟩ := hk T' (by rw [e1, hh, h0]) X'
  exact ⟨t2, st t2 a1, b1⟩
theorem z_pcS (S : CallFix p m c cc nL s args zWS own) (hM : zPu l y bytes maxL ret d vs Pre r) (hw : (decide (Cond.methodLink own j y ∈ zWS) && decide (Cond.static y ∈ zWS) && decide (Cond.initialized y.cls ∈ zWS)) = true) (hcode : Cond.code y bytes maxL ret ∈ zWS)
    (hd : y.cls ≠ "java/lang/invoke/MethodHandle" ∧ y.cls ≠ "java/lang/invoke/VarHandle" ∧ (parseMethodDescriptor y.desc).map (fun d => d.parameters.length) = some n) (hn : vs.length = n) (hR : d + 1 ≤ R.frames ∧ 8 + (maxL + 11) + 40 * d ≤ R.locals) (hbl : ∀ (U : State) (g : JFrame) (mk : MethodId) (a : Array Value), Pre U → Pre (U.calling g mk a)) (hpre : ∀ U : State, U.heap = H → s.WarmedH U.vm → Pre U) (hsz : ls.size = nL) (hwt : (rest.map fun v => v.category).sum ≤ 8) (hdec : decode cc pc = .ok (.invokestatic j, 3)) (hc : cells ≤ R.cells ∧ slots ≤ R.slots)
    (hk : W p l e R s m args below meth c H locs cells slots Q (F0 m (pc + 3) ls (r.toList ++ rest))) : W p l e R s m args below meth c H locs cells slots Q (F0 m pc ls (vs.reverse ++ rest)) := by
  simp only [Bool.and_eq_true, decide_eq_true_eq] at hw
  obtain ⟨⟨w1, w2⟩, w3⟩ := hw
  have hts := S.2.2.2.2
  refine z_pcB ?_ hk
  exact va_runS (As := vs) (n := n) S hM ⟨callB_of n hts (z_goodV (own := own) (C := own) (j := j) hcode) rfl rfl rfl (hts _ w3) (hts _ w1) hd hR, hts _ w2⟩ ⟨fun a U g mk h => ⟨h.1, hbl U g mk a h.2⟩, fun U hU hW => ⟨rfl, hpre U hU hW⟩⟩ rfl hn hsz rfl (lv_room hwt) hdec ⟨by omega, by omega⟩
theorem z_pcV {b : Nat} {C : String} (S : CallFix p m c cc nL s args zWS own) (hM : zPu l y bytes maxL ret d (.ref b :: vs) Pre r) (hw : (decide (Cond.methodLink own j y ∈ zWS) && decide (Cond.instanceMethod y ∈ zWS) && decide (Cond.selects C y y ∈ zWS) && decide (Cond.initialized C ∈ zWS)) = true) (hcode : Cond.code y bytes maxL ret ∈ zWS) (hC : y.cls = C)
    (hd : y.cls ≠ "java/lang/invoke/MethodHandle" ∧ y.cls ≠ "java/lang/invoke/VarHandle" ∧ (parseMethodDescriptor y.desc).map (fun d => d.parameters.length) = some n) (hn : vs.length = n) (hR : d + 1 ≤ R.frames ∧ 8 + (maxL + 11) + 40 * d ≤ R.locals) (hbl : ∀ (U : State) (g : JFrame) (mk : MethodId) (a : Array Value), Pre U → Pre (U.calling g mk a)) (hrec : ∃ cellB : Cell, H[b]? = some cellB ∧ cellB.vm.isStatics = false ∧ s.vm.findClass C = some cellB.cls) (hpre : ∀ U : State, U.heap = H → s.WarmedH U.vm → Pre U) (hsz : ls.size = nL) (hwt : (rest.map fun v => v.category).sum ≤ 8) (hdec : decode cc pc = .ok (.invokevirtual j, 3)) (hc : cells ≤ R.cells ∧ slots ≤ R.slots)
    (hk : W p l e R s m args below meth c H locs cells slots Q (F0 m (pc + 3) ls (r.toList ++ rest))) : W p l e R s m args below meth c H locs cells slots Q (F0 m pc ls (vs.reverse ++ .ref b :: rest)) := by
  simp only [Bool.and_eq_true, decide_eq_true_eq] at hw
  obtain ⟨⟨⟨w1, w2⟩, w3⟩, w4⟩ := hw
  have hts := S.2.2.2.2
  refine z_pcB ?_ hk
  exact va_runV (As := vs) (n := n) S hM ⟨callB_of n hts (z_goodV (own := own) (C := C) (j := j) hcode) rfl rfl rfl (by rw [hC]; exact hts _ w4) (hts _ w1) hd hR, hts _ w2, hts _ w3⟩ ⟨fun a U g mk h => ⟨h.1, hbl U g mk a h.2⟩, hrec, fun U hU hW => ⟨rfl, hpre U hU hW⟩⟩ rfl hn hsz rfl (lv_room hwt) hdec ⟨by omega, by omega⟩
theorem z_talen {t N : Nat} {f : Nat → Value} {A : Nat → Prop} {ty : FieldType} (hx : p.tables.exec = Jvm.exec) (hb : c.code = cc) (hT : va_T ty t N f A s s.heap) (hS : va_S A s.heap H locs) (hdg : decode cc pc = .ok (.arraylength, 1)) (kk : W p l e R s m args below meth c H locs cells slots Q (F0 m (pc + 1) ls (.int (Int32.ofNat N) :: rest))) : W p l e R s m args below meth c H locs cells slots Q (F0 m pc ls (.ref t :: rest)) := by
  obtain ⟨cell, h1, h2, h3, h4, h5, h6, h7⟩ := hT
  exact W.alen hx hb (by rw [hS.2.1 t (Array.getElem?_eq_some_iff.mp h1).1 h7]; exact h1) h2 h5 rfl rfl hdg kk
end Pc
theorem zj_ci (l : Launch) (i n : Int32) (v : Value) (hv : v = .null ∨ ∃ t, v = .ref t) (h0 : ¬ i < 0) (h1 : i < n) : zPu l yJ3_checkIndex_8e157 cJ3_checkIndex_8e157 3 (some .int) 0 [.int i, .int n, v] (fun _ => True) (some (.int i)) := by
  refine zPu_of (own := RJ3) (by decide +kernel) rfl (by rcases hv with rfl | ⟨t, rfl⟩ <;> exact Nat.le_of_ble_eq_true rfl) ?_
  intro p e s m below meth c S hr hlocks _ ls hl
  obtain ⟨hx, hb, hml, hown, hts⟩ := S
  have hl : lv_has ls 3 [(0, .int i), (1, .int n), (2, v)] := by rcases hv with rfl | ⟨t, rfl⟩ <;> exact hl
  refine lv_iload_n (k := 0) hx hb (by decide +kernel) rfl (lv_at hl 0 rfl) ?_
  refine lv_if_lt (off := 8) (tgt := 9) hx hb (by decide +kernel) (by decide) (fun q => absurd q h0) (fun _ => ?_)
  refine lv_iload_n (k := 0) hx hb (by decide +kernel) rfl (lv_at hl 0 rfl) ?_
  refine lv_iload_n (k := 1) hx hb (by decide +kernel) rfl (lv_at hl 1 rfl) ?_
  refine lv_icmp_lt (off := 10) (tgt := 16) hx hb (by decide +kernel) (by decide) (fun _ => ?_) (fun q => absurd h1 q)
  refine lv_iload_n (k := 0) hx hb (by decide +kernel) rfl (lv_at hl 0 rfl) ?_
  exact W.iret hx hb hr (fun t ht hW => ⟨rfl, ht⟩) (fun q hq => nomatch hq) (by decide +kernel) hlocks
theorem zEv_blind {D : va_G} {ca : Nat → ClassId} {ad : zAD} {A : Nat → Prop} {g : zSG} (U : State) (f : JFrame) (mk : MethodId) (a : Array Value) (h : zEv D ca ad A g U U.heap) : zEv D ca ad A g (U.calling f mk a) (U.calling f mk a).heap := h.same rfl
section Str
variable (l : Launch) {D : va_G} {ca : Nat → ClassId} {ad : zAD} {A : Nat → Prop} {g : zSG}
theorem zj_ci0 (i n : Int32) (h0 : ¬ i < 0) (h1 : i < n) : zPu l yJ0_checkIndex_df160 cJ0_checkIndex_df160 2 none 1 [.int i, .int n] (fun U => zEv D ca ad A g U U.heap) none := by
  refine zPu_of (own := RJ0) (by decide +kernel) rfl (Nat.le_of_ble_eq_true rfl) ?_
  intro p e s m below meth c S hr hlocks hE ls hl
  have S' := S
  obtain ⟨hx, hb, hml, hown, hts⟩ := S
  have hl : lv_has ls 2 [(0, .int i), (1, .int n)] := hl
  have hS : va_S A s.heap s.heap [] := va_S.rf
  obtain ⟨-, -, -, -, -, -, -, -, eq, -⟩ := hE
  refine lv_iload_n (k := 0) hx hb (by decide +kernel) rfl (lv_at hl 0 rfl) ?_
  refine lv_iload_n (k := 1) hx hb (by decide +kernel) rfl (lv_at hl 1 rfl) ?_
  have key : ∀ v : Value, (v = .null ∨ ∃ t, v = .ref t) → W p l e (zrm 1 0 0) s m [Value.int i, Value.int n].toArray below meth c s.heap [] 0 0 (MQ below (fun _ st o t => o = .returned none ∧ t.heap = st.heap) [Value.int i, Value.int n].toArray s 0 0 (fun _ => False)) (F0 m 5 ls [v, .int n, .int i]) := by
    intro v hv
    refine z_pcS (R := zrm 1 0 0) (n := 3) (vs := [.int i, .int n, v]) (rest := []) (j := 1059) S' (zj_ci l i n v hv h0 h1) (by decide +kernel) (by decide +kernel) ⟨by decide +kernel, by decide +kernel, by decide +kernel⟩ rfl ⟨by decide, by decide⟩ (fun _ _ _ _ h => h) (fun _ _ _ => trivial) hl.1 (by decide) (by decide +kernel) ⟨by decide, by decide⟩ ?_
    refine lv_pop hx hb (by decide +kernel) rfl ?_
    exact W.vret hx hb hr (fun t ht hW => ⟨rfl, ht⟩) (fun q hq => nomatch hq) (by decide +kernel) hlocks
  rcases eq with hz | ⟨t, hz⟩
  · exact va_gets hx hb hz hS hown (hts (.fieldLink RJ0 1053 "jdk/internal/util/Preconditions" "SIOOBE_FORMATTER" "Ljava/util/function/BiFunction;") (by decide +kernel)) (fun _ h => h) (by decide +kernel) (key .null (Or.inl rfl))
  · exact va_gets hx hb hz hS hown (hts (.fieldLink RJ0 1053 "jdk/internal/util/Preconditions" "SIOOBE_FORMATTER" "Ljava/util/function/BiFunction;") (by decide +kernel)) (fun _ h => h) (by decide +kernel) (key (.ref t) (Or.inr ⟨t, rfl⟩))
theorem zj_coder {w : Nat} (hw : w < 8) : zPu l yJ0_coder_7d493 cJ0_coder_7d493 1 (some .byte) 0 [.ref (ad 6 w 0)] (fun U => zEv D ca ad A g U U.heap) (some (.int 0)) := by
  refine zPu_of (own := RJ0) (by decide +kernel) rfl (Nat.le_of_ble_eq_true rfl) ?_
  intro p e s m below meth c S hr hlocks hE ls hl
  obtain ⟨hx, hb, hml, hown, hts⟩ := S
  have hl : lv_has ls 1 [(0, .ref (ad 6 w 0))] := hl
  have hS : va_S A s.heap s.heap [] := va_S.rf
  obtain ⟨-, -, -, -, -, -, eS, eC, -⟩ := hE
  refine va_gets hx hb eC hS hown (hts (.fieldLink RJ0 38 "java/lang/String" "COMPACT_STRINGS" "Z") (by decide +kernel)) (fun _ h => h) (by decide +kernel) ?_
  refine lv_if_eq (off := 10) (tgt := 13) hx hb (by decide +kernel) (by decide) (fun q => absurd q (by decide)) (fun _ => ?_)
  refine lv_aload_n (k := 0) hx hb (by decide +kernel) rfl (lv_at hl 0 rfl) ?_
  refine vk_getf hx hb (eS.1 w hw).2.1 hS hown (hts (.fieldLink RJ0 15 "java/lang/String" "coder" "B") (by decide +kernel)) (fun _ h => h) (by decide +kernel) ?_
  refine lv_goto (off := 4) (tgt := 14) hx hb (by decide +kernel) (by decide) ?_
  exact W.zret hx hb hr rfl (fun t ht hW => ⟨rfl, ht⟩) (fun q hq => nomatch hq) (by decide +kernel) hlocks
theorem zj_latin {w : Nat} (hw : w < 8) : zPu l yJ0_isLatin1_aae02 cJ0_isLatin1_aae02 1 (some .boolean) 0 [.ref (ad 6 w 0)] (fun U => zEv D ca ad A g U U.heap) (some (.int 1)) := by
  refine zPu_of (own := RJ0) (by decide +kernel) rfl (Nat.le_of_ble_eq_true rfl) ?_
  intro p e s m below meth c S hr hlocks hE ls hl
  obtain ⟨hx, hb, hml, hown, hts⟩ := S
  have hl : lv_has ls 1 [(0, .ref (ad 6 w 0))] := hl
  have hS : va_S A s.heap s.heap [] := va_S.rf
  obtain ⟨-, -, -, -, -, -, eS, eC, -⟩ := hE
  refine va_gets hx hb eC hS hown (hts (.fieldLink RJ0 38 "java/lang/String" "COMPACT_STRINGS" "Z") (by decide +kernel)) (fun _ h => h) (by decide +kernel) ?_
  refine lv_if_eq (off := 14) (tgt := 17) hx hb (by decide +kernel) (by decide) (fun q => absurd q (by decide)) (fun _ => ?_)
  refine lv_aload_n (k := 0) hx hb (by decide +kernel) rfl (lv_at hl 0 rfl) ?_
  refine vk_getf hx hb (eS.1 w hw).2.1 hS hown (hts (.fieldLink RJ0 15 "java/lang/String" "coder" "B") (by decide +kernel)) (fun _ h => h) (by decide +kernel) ?_
  refine lv_if_ne (off := 7) (tgt := 17) hx hb (by decide +kernel) (by decide) (fun q => absurd rfl q) (fun _ => ?_)
  refine lv_iconst (v := 1) hx hb (n := 1) (by decide +kernel) (by decide) ?_
  refine lv_goto (off := 4) (tgt := 18) hx hb (by decide +kernel) (by decide) ?_
  exact W.zret hx hb hr rfl (fun t ht hW => ⟨rfl, ht⟩) (fun q hq => nomatch hq) (by decide +kernel) hlocks
theorem z_str_pre {s : State} (hE : zEv D ca ad A g s s.heap) : ∀ U : State, U.heap = s.heap → s.WarmedH U.vm → zEv D ca ad A g U U.heap := fun U hU hW => by rw [hU]; exact hE.warm hW
theorem z_str_rec {s : State} (hE : zEv D ca ad A g s s.heap) {w : Nat} (hw : w < 8) : ∃ cell : Cell, s.heap[ad 6 w 0]? = some cell ∧ cell.vm.isStatics = false ∧ s.vm.findClass RJ0 = some cell.cls := by
  obtain ⟨-, -, -, -, -, -, eS, -⟩ := hE
  exact vk_recv (i := w) (adK := fun i => ad 6 i 0) eS hw (va_S.rf (A := A))
theorem zj_length {w : Nat} (hw : w < 8) : zPu l yJ0_length_8abf5 cJ0_length_8abf5 1 (some .int) 1 [.ref (ad 6 w 0)] (fun U => zEv D ca ad A g U U.heap) (some (.int (Int32.ofNat (zLen.getD w 0) >>> ((0 : Int32) &&& 31)))) := by
  refine zPu_of (own := RJ0) (by decide +kernel) rfl (Nat.le_of_ble_eq_true rfl) ?_
  intro p e s m below meth c S hr hlocks hE ls hl
  have S' := S
  have hE' := hE
  obtain ⟨hx, hb, hml, hown, hts⟩ := S
  have hl : lv_has ls 1 [(0, .ref (ad 6 w 0))] := hl
  have hS : va_S A s.heap s.heap [] := va_S.rf
  obtain ⟨-, -, -, -, -, -, eS, eC, -⟩ := hE
  refine lv_aload_n (k := 0) hx hb (by decide +kernel) rfl (lv_at hl 0 rfl) ?_
  refine vk_getf hx hb (eS.1 w hw).2.2.1 hS hown (hts (.fieldLink RJ0 9 "java/lang/String" "value" "[B") (by decide +kernel)) (fun _ h => h) (by decide +kernel) ?_
  refine z_talen hx hb (eS.1 w hw).2.2.2 hS (by decide +kernel) ?_
  refine lv_aload_n (k := 0) hx hb (by decide +kernel) rfl (lv_at hl 0 rfl) ?_
  refine z_pcV (R := zrm 1 0 0) (n := 0) (vs := []) (rest := [.int (Int32.ofNat (zLen.getD w 0))]) (b := ad 6 w 0) (C := RJ0) (j := 335) S' (zj_coder l (D := D) (ca := ca) (A := A) (g := g) hw) (by decide +kernel) (by decide +kernel) rfl ⟨by decide +kernel, by decide +kernel, by decide +kernel⟩ rfl ⟨by decide, by decide⟩ zEv_blind (z_str_rec hE' hw) (z_str_pre hE') hl.1 (Nat.le_of_ble_eq_true rfl) (by decide +kernel) ⟨by decide, by decide⟩ ?_
  refine lv_ishr hx hb (by decide +kernel) ?_
  exact W.iret hx hb hr (fun t ht hW => ⟨rfl, ht⟩) (fun q hq => nomatch hq) (by decide +kernel) hlocks
def zCh (w : Nat) (i : Int32) : Int32 := (((zByt.getD w []).getD i.toNatClampNeg 0 &&& z_si 255).toUInt32 % 65536).toInt32
theorem zj_ch1 {w : Nat} (hw : w < 8) (i : Int32) (hi : z_inb i (zLen.getD w 0)) : zPu l yJ1_charAt_3b067 cJ1_charAt_3b067 2 (some .char) 2 [.ref (ad 6 w 1), .int i] (fun U => zEv D ca ad A g U U.heap) (some (.int (zCh w i))) := by
  have hlt : zLen.getD w 0 < 2 ^ 31 := (show ∀ w, w < 8 → zLen.getD w 0 < 2 ^ 31 by decide +kernel) w hw
  have h0 : ¬ i < 0 := by
    intro q
    have h1 := Int32.lt_iff_toInt_lt.mp q
    have h2 := hi.1
    have h3 : (0 : Int32).toInt = 0 := rfl
    omega
  have h1 : i < Int32.ofNat (zLen.getD w 0) := by
    apply Int32.lt_iff_toInt_lt.mpr
    have h2 := hi.2
    have h3 : (Int32.ofNat (zLen.getD w 0)).toInt = (zLen.getD w 0 : Int) := nI_toInt hlt
    omega
  refine zPu_of (own := RJ1) (by decide +kernel) rfl (Nat.le_of_ble_eq_true rfl) ?_
  intro p e s m below meth c S hr hlocks hE ls hl
  have S' := S
  have hE' := hE
  obtain ⟨hx, hb, hml, hown, hts⟩ := S
  have hl : lv_has ls 2 [(0, .ref (ad 6 w 1)), (1, .int i)] := hl
  have hS : va_S A s.heap s.heap [] := va_S.rf
  obtain ⟨-, -, -, -, -, -, eS, eC, -⟩ := hE
  refine lv_iload_n (k := 1) hx hb (by decide +kernel) rfl (lv_at hl 1 rfl) ?_
  refine lv_aload_n (k := 0) hx hb (by decide +kernel) rfl (lv_at hl 0 rfl) ?_
  refine z_talen hx hb (eS.1 w hw).2.2.2 hS (by decide +kernel) ?_
  refine z_pcS (R := zrm 2 0 0) (n := 2) (vs := [.int i, .int (Int32.ofNat (zLen.getD w 0))]) (rest := []) (j := 9) S' (zj_ci0 l (D := D) (ca := ca) (ad := ad) (A := A) (g := g) i _ h0 h1) (by decide +kernel) (by decide +kernel) ⟨by decide +kernel, by decide +kernel, by decide +kernel⟩ rfl ⟨by decide, by decide⟩ zEv_blind (z_str_pre hE') hl.1 (by decide) (by decide +kernel) ⟨by decide, by decide⟩ ?_
  refine lv_aload_n (k := 0) hx hb (by decide +kernel) rfl (lv_at hl 0 rfl) ?_
  refine lv_iload_n (k := 1) hx hb (by decide +kernel) rfl (lv_at hl 1 rfl) ?_
  refine va_tb hx hb (eS.1 w hw).2.2.2 hS (z_inb_iff.mp hi) rfl (by decide +kernel) ?_
  refine lv_sipush (v := z_si 255) hx hb (n := 255) (by decide +kernel) rfl ?_
  refine lv_iand hx hb (by decide +kernel) ?_
  refine lv_i2c hx hb (by decide +kernel) rfl ?_
  exact W.zret hx hb hr (pk_nc _) (fun t ht hW => ⟨rfl, ht⟩) (fun q hq => nomatch hq) (by decide +kernel) hlocks
theorem zj_charAt {w : Nat} (hw : w < 8) (i : Int32) (hi : z_inb i (zLen.getD w 0)) : zPu l yJ0_charAt_5068e cJ0_charAt_5068e 2 (some .char) 3 [.ref (ad 6 w 0), .int i] (fun U => zEv D ca ad A g U U.heap) (some (.int (zCh w i))) := by
  refine zPu_of (own := RJ0) (by decide +kernel) rfl (Nat.le_of_ble_eq_true rfl) ?_
  intro p e s m below meth c S hr hlocks hE ls hl
  have S' := S
  have hE' := hE
  obtain ⟨hx, hb, hml, hown, hts⟩ := S
  have hl : lv_has ls 2 [(0, .ref (ad 6 w 0)), (1, .int i)] := hl
  have hS : va_S A s.heap s.heap [] := va_S.rf
  obtain ⟨-, -, -, -, -, -, eS, eC, -⟩ := hE
  refine lv_aload_n (k := 0) hx hb (by decide +kernel) rfl (lv_at hl 0 rfl) ?_
  refine z_pcV (R := zrm 3 0 0) (n := 0) (vs := []) (rest := []) (b := ad 6 w 0) (C := RJ0) (j := 492) S' (zj_latin l (D := D) (ca := ca) (A := A) (g := g) hw) (by decide +kernel) (by decide +kernel) rfl ⟨by decide +kernel, by decide +kernel, by decide +kernel⟩ rfl ⟨by decide, by decide⟩ zEv_blind (z_str_rec hE' hw) (z_str_pre hE') hl.1 (by decide) (by decide +kernel) ⟨by decide, by decide⟩ ?_
  refine lv_if_eq (off := 12) (tgt := 16) hx hb (by decide +kernel) (by decide) (fun q => absurd q (by decide)) (fun _ => ?_)
  refine lv_aload_n (k := 0) hx hb (by decide +kernel) rfl (lv_at hl 0 rfl) ?_
  refine vk_getf hx hb (eS.1 w hw).2.2.1 hS hown (hts (.fieldLink RJ0 9 "java/lang/String" "value" "[B") (by decide +kernel)) (fun _ h => h) (by decide +kernel) ?_
  refine lv_iload_n (k := 1) hx hb (by decide +kernel) rfl (lv_at hl 1 rfl) ?_
  refine z_pcS (R := zrm 3 0 0) (n := 2) (vs := [.ref (ad 6 w 1), .int i]) (rest := []) (j := 495) S' (zj_ch1 l (D := D) (ca := ca) (ad := ad) (A := A) (g := g) hw i hi) (by decide +kernel) (by decide +kernel) ⟨by decide +kernel, by decide +kernel, by decide +kernel⟩ rfl ⟨by decide, by decide⟩ zEv_blind (z_str_pre hE') hl.1 (by decide) (by decide +kernel) ⟨by decide, by decide⟩ ?_
  exact W.zret hx hb hr (pk_nc _) (fun t ht hW => ⟨rfl, ht⟩) (fun q hq => nomatch hq) (by decide +kernel) hlocks
end Str
/-- as calls of the pure machine -/
def zF_slen (vs : List zVV) (g : zSG) : Option zRR := match vs with
  | [.inr (.inl (6, w, 0))] => if w < 8 then some (.inl (some (.inl (Int32.ofNat (zLen.getD w 0)))), g) else none
  | _ => none
def zF_sch (vs : List zVV) (g : zSG) : Option zRR := match vs with
  | [.inr (.inl (6, w, 0)), .inl i] => if w < 8 then (if z_inb i (zLen.getD w 0) then some (.inl (some (.inl (zCh w i))), g) else none) else none
  | _ => none
theorem z_take1 {st : List zVV} {a : zVV} (h : (st.take 1).reverse = [a]) : st = a :: st.drop 1 := by
  have h1 := congrArg List.reverse h
  rw [List.reverse_reverse] at h1
  conv => lhs; rw [← List.take_append_drop 1 st, h1]
  rfl
theorem z_take2 {st : List zVV} {a b : zVV} (h : (st.take 2).reverse = [a, b]) : st = b :: a :: st.drop 2 := by
  have h1 := congrArg List.reverse h
  rw [List.reverse_reverse] at h1
  conv => lhs; rw [← List.take_append_drop 2 st, h1]
  rfl
theorem z_slen0 : ∀ w, w < 8 → Int32.ofNat (zLen.getD w 0) >>> ((0 : Int32) &&& 31) = Int32.ofNat (zLen.getD w 0) := by decide +kernel
theorem z_calLen {l : Launch} {R : Room} {nL : Nat} (hf : 2 ≤ R.frames) (hlo : 80 ≤ R.locals) : zCalOK l R RX1 nL 112 (.invokevirtual 112) (zF_slen, 1, 1, 0, 0) := by
  intro p e s m args below meth c cc D ca ad A g0 pc Cx hdec
  obtain ⟨hx, hb, hml, hown, hts, hK, hA, hE, hlocks, hex⟩ := Cx
  intro lc st g b r' r a1 a2 a3 a4 hF hk hxx H locs cells slots ls hP hS hl c1 c2 h5
  dsimp only at a1 a2 a3 a4 hF hk
  unfold zF_slen at hF
  split at hF
  · rename_i w hv
    obtain ⟨hw, hF⟩ := z_ift hF
    have er := (Option.some.inj hF).symm
    subst er
    rw [z_take1 hv]
    refine z_pcV (n := 0) (vs := []) (rest := (st.drop 1).map (z_tV ad)) (b := ad 6 w 0) (C := RJ0) (j := 112) (cc := cc) (nL := nL) (own := RX1) ⟨hx, hb, hml, hown, hts⟩ (zj_length l (D := D) (ca := ca) (A := A) (g := g0) hw) (by decide +kernel) (by decide +kernel) rfl ⟨by decide +kernel, by decide +kernel, by decide +kernel⟩ rfl ⟨hf, by omega⟩ zEv_blind ?_ (fun U hU hW => by rw [hU]; exact (hE.kept hS.2.1).warm hW) hl.1 (by rw [z_wt_sum]; exact a4) hdec ⟨by omega, by omega⟩ ?_
    · obtain ⟨-, -, -, -, -, -, eS, -⟩ := hE
      exact vk_recv (i := w) (adK := fun i => ad 6 i 0) eS hw hS
    · have h9 := hk _ rfl H locs cells slots ls hP hS hl (by dsimp only; omega) (by dsimp only; omega) h5
      rw [z_slen0 w hw]
      exact h9
  · cases hF
theorem z_calCh {l : Launch} {R : Room} {nL : Nat} (hf : 4 ≤ R.frames) (hlo : 160 ≤ R.locals) : zCalOK l R RX1 nL 117 (.invokevirtual 117) (zF_sch, 2, 1, 0, 0) := by
  intro p e s m args below meth c cc D ca ad A g0 pc Cx hdec
  obtain ⟨hx, hb, hml, hown, hts, hK, hA, hE, hlocks, hex⟩ := Cx
  intro lc st g b r' r a1 a2 a3 a4 hF hk hxx H locs cells slots ls hP hS hl c1 c2 h5
  dsimp only at a1 a2 a3 a4 hF hk
  unfold zF_sch at hF
  split at hF
  · rename_i w i hv
    obtain ⟨hw, hF⟩ := z_ift hF
    obtain ⟨hi, hF⟩ := z_ift hF
    have er := (Option.some.inj hF).symm
    subst er
    rw [z_take2 hv]
    refine z_pcV (n := 1) (vs := [.int i]) (rest := (st.drop 2).map (z_tV ad)) (b := ad 6 w 0) (C := RJ0) (j := 117) (cc := cc) (nL := nL) (own := RX1) ⟨hx, hb, hml, hown, hts⟩ (zj_charAt l (D := D) (ca := ca) (A := A) (g := g0) hw i hi) (by decide +kernel) (by decide +kernel) rfl ⟨by decide +kernel, by decide +kernel, by decide +kernel⟩ rfl ⟨hf, by omega⟩ zEv_blind ?_ (fun U hU hW => by rw [hU]; exact (hE.kept hS.2.1).warm hW) hl.1 (by rw [z_wt_sum]; exact a4) hdec ⟨by omega, by omega⟩ ?_
    · obtain ⟨-, -, -, -, -, -, eS, -⟩ := hE
      exact vk_recv (i := w) (adK := fun i => ad 6 i 0) eS hw hS
    · exact hk _ rfl H locs cells slots ls hP hS hl (by dsimp only; omega) (by dsimp only; omega) h5
  · cases hF
