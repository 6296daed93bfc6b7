/-! ===== the start: two objects, and the world ===== -/
section Sw
variable {p : Program} {l : Launch} {e : Env} {R : Room} {s : State} {m : MethodId} {args : Array Value} {below : List Frame} {meth : Method} {c : Code} {D : va_G} {ca : Nat → ClassId} {A : Nat → Prop} {Q : State → Prop} {cc : ByteArray} {own : String} {nL : Nat}
/-- a new object by a constructor that all may call -/
theorem zn_objI {S : Type} {post : Nat → S → Prop} {wv : S → va_W} {Pp : (Nat → Prop) → Nat → State → Prop} {ci n1 n2 d mL idx j pc cells slots : Nat} {y : MethodName} {cy : ByteArray} {C : String} {T : u_T} {N : Nat} {ws : va_W} {H : Heap} {locs : List Loc} {ls : Array Slot} {rest : List Value} (hx : p.tables.exec = Jvm.exec) (hb : c.code = cc) (hml : c.maxLocals = nL) (hts : ∀ w ∈ zWS, w.before args s = true) (hown : s.vm.findClass own = some m.cls) (hK : va_K D zCL (zTL ca) s) (hA : ∀ q, s.heap.size ≤ q → A q) (hsz : ls.size = nL) (hci : zCL[ci]? = some (C, T, N)) (hc6 : ci < 6)
    (hw : (decide (Cond.classLink own idx C ∈ zWS) && decide (Cond.instantiable C N ∈ zWS) && decide (Cond.initialized C ∈ zWS) && decide (Cond.instanceMethod y ∈ zWS) && decide (Cond.code y cy mL none ∈ zWS) && decide (Cond.methodLink own j y ∈ zWS)) = true) (hy : y.cls = C) (hyn : y.name = "<init>") (hyd : y.cls ≠ "java/lang/invoke/MethodHandle" ∧ y.cls ≠ "java/lang/invoke/VarHandle" ∧ (parseMethodDescriptor y.desc).map (fun d => d.parameters.length) = some 0) (hR : d + 1 ≤ R.frames ∧ 8 + (mL + 11) + 40 * d ≤ R.locals)
    (hM : ∀ (A : Nat → Prop) (q : Nat), Met l y (.code y cy mL none :: zWS) (zrm d n1 n2) (va_Pc [.ref q] (Pp A q)) (va_Qv (post q) (fun a t => va_P D zCL (wv a) t.heap ∧ va_D A (wv a)) A) n1 n2 A) (hbl : ∀ (A : Nat → Prop) (q : Nat), FrameBlind (va_Pc [.ref q] (Pp A q))) (hpp : ∀ (A : Nat → Prop) (q : Nat) (U : State), s.WarmedH U.vm → zPi D ca A ci q U → Pp A q U)
    (hP : va_P D zCL ws H) (hD : va_D A ws) (hS : va_S A s.heap H locs) (hrest : (rest.map fun v => v.category).sum ≤ 7) (hc : cells + 1 + n1 ≤ R.cells) (hs : slots + N + n2 ≤ R.slots) (d1 : decode cc pc = .ok (.new idx, 3)) (d2 : decode cc (pc + 3) = .ok (.dup, 1)) (d3 : decode cc (pc + 3 + 1) = .ok (.invokespecial j, 3))
    (kk : ∀ (q : Nat) (a : S) (H1 : Heap) (locs1 : List Loc), post q a → va_P D zCL (ws ++ wv a) H1 → va_D A (ws ++ wv a) → va_S A s.heap H1 locs1 → W p l e R s m args below meth c H1 locs1 (cells + 1 + n1) (slots + N + n2) Q (F0 m (pc + 3 + 1 + 3) ls (.ref q :: rest))) : W p l e R s m args below meth c H locs cells slots Q (F0 m pc ls rest) := by
  simp only [Bool.and_eq_true, decide_eq_true_eq] at hw
  obtain ⟨⟨⟨⟨⟨w1, w2⟩, w3⟩, w4⟩, w5⟩, w6⟩ := hw
  have hNf : N = z_nf ci := z_nfok hci
  refine va_new (ci := ci) (fs := zDf ci) (C := C) (T := T) (N := N) hx hb hts (z_inFw hci) (z_ty ci) (z_tyok hci) hown (hts _ w1) (hts _ w2) (hts _ w3) hK hP hD hS hA hci (fun j hj => zDf_ok ci hc6 j (by rw [← hNf]; exact hj)) (by omega) (by omega) d1 (fun q H1 hP1 hD1 hS1 => ?_)
  refine lv_dup hx hb d2 rfl ?_
  have hone : va_P D zCL [(q, .inr (ci, zDf ci))] H1 := z_one (hP1 ws.length _ (by rw [List.getElem?_append_right (Nat.le_refl _), Nat.sub_self]; rfl))
  have hAq : A q := hD1.2 ws.length (q, .inr (ci, zDf ci)) (by rw [List.getElem?_append_right (Nat.le_refl _), Nat.sub_self]; rfl)
  have hDo : va_D (fun x => x = q ∨ H1.size ≤ x) [(q, .inr (ci, zDf ci))] := ⟨fun i j p' q' hi hj _ => by
      have h1 := (List.getElem?_eq_some_iff.mp hi).1
      have h2 := (List.getElem?_eq_some_iff.mp hj).1
      simp only [List.length_cons, List.length_nil] at h1 h2
      omega, fun k x hk => by
      match k, hk with
      | 0, hk => cases hk; exact Or.inl rfl
      | k + 1, hk => simp at hk⟩
  refine va_callv (va_runI (As := []) (rest := .ref q :: rest) (own := own) ⟨hx, hb, hml, hown, hts⟩ (hM (fun x => x = q ∨ H1.size ≤ x) q) (cwI 0 hts (z_goodV (own := own) (C := C) (j := j) w5) rfl rfl rfl (by rw [hy]; exact hts _ w3) (hts _ w6) (hts _ w4) hyn hyd ⟨hR.1, hR.2⟩) ⟨hbl _ _, fun U hU hW => ⟨rfl, hpp _ _ U hW ⟨va_K.moved hW.alike hK, by rw [hU]; exact hone, hDo, fun x hx => Or.inr (by rw [hU] at hx; exact hx)⟩⟩⟩ rfl rfl hsz rfl (lv_room (by simp only [List.map_cons, List.sum_cons]; show 1 + _ ≤ 8; omega)) d3 ⟨by omega, by omega⟩) hS1 (fun x _ hx => hx.elim (fun e => by rw [e]; exact hAq) (fun e => hA x (Nat.le_trans hS1.1 e))) (fun x hx => hx.elim (fun e => by rw [e]; exact hAq) (fun e => hA x (Nat.le_trans hS1.1 e))) (fun a t H2 locs2 ht hvm hw hB hz2 hk2 hS2 => ?_)
  obtain ⟨hB1, hB2⟩ := hB
  rw [ht] at hB1
  obtain ⟨hPj, hDj⟩ := zn_join hP1 hD1 hk2 hA hS1.1 hB1 hB2
  exact kk q a H2 locs2 hw hPj hDj hS2
end Sw
/-- the first table of addresses -/
def zA0 (u : Nat → Nat → Nat) (v : Nat → Nat) (kK kV : Nat → Nat) : zAD := fun c i k => match c with
  | 0 => u 0 k
  | 1 => u 1 k
  | 2 => u 2 k
  | 3 => v k
  | 4 => u (4 + i) k
  | 5 => u 8 k
  | 6 => bif Nat.beq k 0 then kK i else kV i
  | _ => u 1 9
def zB0 (ca : Nat → ClassId) (u : Nat → Nat → Nat) : va_W := [(u 0 0, .inr (0, [.ref (u 0 1), .ref (u 0 2), .ref (u 0 3), .ref (u 0 4), .ref (u 0 5), .ref (u 1 0), .ref (u 2 0), .ref (u 0 8), .ref (u 0 9), .ref (u 0 10), .int 0, .int 0, .int 0])), (u 0 1, .inl (ca 0, 400, .inl (fun _ => 0))), (u 0 2, .inl (ca 0, 8, .inl (fun _ => 0))), (u 0 3, .inl (ca 0, 16, .inl (fun _ => 0))), (u 0 4, .inl (ca 1, 32, .inl (fun _ => 0))), (u 0 5, .inl (ca 3, 8, zRf (fun _ => some (u 8 0)))), (u 0 8, .inl (ca 2, 2, zRf (fun j => some (u (4 + (0 + j)) 0)))), (u 0 9, .inl (ca 2, 2, zRf (fun j => some (u (4 + (2 + j)) 0)))), (u 0 10, .inl (ca 0, 30, .inl (fun _ => 0)))]
set_option maxRecDepth 100000 in
set_option maxHeartbeats 4000000 in
theorem zs_wl (ca : Nat → ClassId) (u : Nat → Nat → Nat) (v kK kV : Nat → Nat) : z_wl (zA0 u v kK kV) ca zGZ = zB0 ca u ++ (zOb ca 1 (u 1) ++ (zOb ca 2 (u 2) ++ (zOb ca 3 v ++ (zOb ca 4 (u 4) ++ (zOb ca 4 (u 5) ++ (zOb ca 4 (u 6) ++ zOb ca 4 (u 7))))))) := rfl
