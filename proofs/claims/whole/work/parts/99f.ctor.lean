/-! ===== constructors: rows of new arrays into fields ===== -/
/-- length of the array, length of the push, booleans?, the field, the pool's place -/
abbrev zNE : Type := Nat × Nat × Bool × Nat × Nat
def zn_ins (N len : Nat) : Instr := match len with
  | 1 => .iconst (N : Int)
  | 2 => .bipush (N : Int)
  | _ => .sipush (N : Int)
def zn_val (N len : Nat) : Bool := match len with
  | 1 => decide (Int32.ofInt (N : Int) = nI N)
  | 2 => decide (z_bi (N : Int) = nI N)
  | 3 => decide (z_si (N : Int) = nI N)
  | _ => false
def zn_et (b : Bool) : FieldType := bif b then .boolean else .int
def zn_at (b : Bool) : ArrayType := bif b then .boolean else .int
def zn_fd (own : String) (ci k j : Nat) (ty : FieldType) : Bool := match zCL[ci]? with
  | some q => decide (k < q.2.2) && decide (Cond.fieldLink own j (q.2.1 k).1 (q.2.1 k).2.1 (q.2.1 k).2.2.1 ∈ zWS) && (!(q.2.1 k).2.2.2 || decide ((q.2.1 k).1 = own)) && decide (z_ty ci k = ty)
  | none => false
def zn_ok (cc : ByteArray) (own : String) (ci : Nat) : Nat → List zNE → Bool
  | _, [] => true
  | pc, (N, len, b, k, j) :: r => decide (decode cc pc = .ok (.aload_n 0, 1)) && decide (decode cc (pc + 1) = .ok (zn_ins N len, len)) && zn_val N len && decide (decode cc (pc + 1 + len) = .ok (.newarray (zn_at b), 2)) && decide (decode cc (pc + 1 + len + 2) = .ok (.putfield j, 3)) && zn_fd own ci k j (.array (zn_et b)) && decide (N ≤ 4000) && zn_ok cc own ci (pc + 1 + len + 2 + 3) r
def zn_end : Nat → List zNE → Nat
  | pc, [] => pc
  | pc, (_, len, _) :: r => zn_end (pc + 1 + len + 2 + 3) r
def zn_sz : List zNE → Nat
  | [] => 0
  | (N, _) :: r => N + zn_sz r
def zn_fs : List zNE → List Nat → List Value → List Value
  | (_, _, _, k, _) :: r, q :: qs, fs => zn_fs r qs (fs.set k (.ref q))
  | _, _, fs => fs
def zn_ar (ca : Nat → ClassId) : List zNE → List Nat → va_W
  | (N, _, b, _, _) :: r, q :: qs => (q, .inl (ca (bif b then 1 else 0), N, .inl (fun _ => 0))) :: zn_ar ca r qs
  | _, _ => []
theorem zn_words : (decide (Cond.arrayClass .int ∈ zWS) && decide (Cond.arrayClass .boolean ∈ zWS) && decide (Cond.arrayClass .long ∈ zWS)) = true := by decide +kernel
theorem zn_ca {D : va_G} {ca : Nat → ClassId} {s : State} {cA : ClassId} {b : Bool} (h : va_K D zCL (zTL ca ++ [(cA, zn_et b)]) s) : cA = ca (bif b then 1 else 0) := by
  cases b with
  | true =>
    have h1 : s.vm.findClass ("[" ++ FieldType.boolean.toString) = some cA := (h.2 4 (cA, .boolean) rfl).2
    have h2 : s.vm.findClass ("[" ++ FieldType.boolean.toString) = some (ca 1) := (h.2 1 (ca 1, .boolean) rfl).2
    exact Option.some.inj (h1.symm.trans h2)
  | false =>
    have h1 : s.vm.findClass ("[" ++ FieldType.int.toString) = some cA := (h.2 4 (cA, .int) rfl).2
    have h2 : s.vm.findClass ("[" ++ FieldType.int.toString) = some (ca 0) := (h.2 0 (ca 0, .int) rfl).2
    exact Option.some.inj (h1.symm.trans h2)
section Cn
variable {p : Program} {l : Launch} {e : Env} {R : Room} {s : State} {m : MethodId} {args : Array Value} {below : List Frame} {meth : Method} {c : Code} {D : va_G} {ca : Nat → ClassId} {A : Nat → Prop} {Q : State → Prop} {cc : ByteArray} {own : String} {nL : Nat}
/-- a new array of ints or booleans -/
theorem zn_new {ws : va_W} {H : Heap} {locs : List Loc} {cells slots pc N : Nat} {ls : Array Slot} {rest : List Value} (b : Bool) (hx : p.tables.exec = Jvm.exec) (hb : c.code = cc) (hts : ∀ w ∈ zWS, w.before args s = true) (hK : va_K D zCL (zTL ca) s) (hP : va_P D zCL ws H) (hD : va_D A ws) (hS : va_S A s.heap H locs) (hA : ∀ q, s.heap.size ≤ q → A q) (hN : N ≤ 4000) (hc : cells + 1 ≤ R.cells) (hs : slots + N ≤ R.slots) (hd : decode cc pc = .ok (.newarray (zn_at b), 2))
    (kk : ∀ (q : Nat) (H1 : Heap), va_P D zCL (ws ++ [(q, .inl (ca (bif b then 1 else 0), N, .inl (fun _ => 0)))]) H1 → va_D A (ws ++ [(q, .inl (ca (bif b then 1 else 0), N, .inl (fun _ => 0)))]) → va_S A s.heap H1 locs → W p l e R s m args below meth c H1 locs (cells + 1) (slots + N) Q (F0 m (pc + 2) ls (.ref q :: rest))) : W p l e R s m args below meth c H locs cells slots Q (F0 m pc ls (.int (nI N) :: rest)) := by
  have hw := zn_words
  simp only [Bool.and_eq_true, decide_eq_true_eq] at hw
  have hn : ¬ nI N < 0 := nI_pos (by omega)
  have hcl : (nI N).toNatClampNeg = N := nI_clamp (by omega)
  cases b with
  | true =>
    refine va_newa (atype := .boolean) (a0 := (N, .inl (fun _ => 0))) hx hb (hts _ hw.1.2) rfl hK hP hD hS hA (fun cA => rfl) hn hcl (by show N * 1 ≤ _; omega) hc hs hd (fun q cA H1 hK1 hP1 hD1 hS1 => ?_)
    have e := zn_ca (b := true) hK1
    subst e
    exact kk q H1 hP1 hD1 hS1
  | false =>
    refine va_newa (atype := .int) (a0 := (N, .inl (fun _ => 0))) hx hb (hts _ hw.1.1) rfl hK hP hD hS hA (fun cA => rfl) hn hcl (by show N * 4 ≤ _; omega) hc hs hd (fun q cA H1 hK1 hP1 hD1 hS1 => ?_)
    have e := zn_ca (b := false) hK1
    subst e
    exact kk q H1 hP1 hD1 hS1
theorem zn_push {H : Heap} {locs : List Loc} {cells slots pc N len : Nat} {ls : Array Slot} {rest : List Value} (hx : p.tables.exec = Jvm.exec) (hb : c.code = cc) (hv : zn_val N len = true) (hd : decode cc pc = .ok (zn_ins N len, len)) (kk : W p l e R s m args below meth c H locs cells slots Q (F0 m (pc + len) ls (.int (nI N) :: rest))) : W p l e R s m args below meth c H locs cells slots Q (F0 m pc ls rest) := by
  match len, hv, hd, kk with
  | 1, hv, hd, kk => exact lv_iconst (v := nI N) hx hb hd (of_decide_eq_true hv) kk
  | 2, hv, hd, kk => exact lv_bipush (v := nI N) hx hb hd (of_decide_eq_true hv) kk
  | 3, hv, hd, kk => exact lv_sipush (v := nI N) hx hb hd (of_decide_eq_true hv) kk
  | 0, hv, hd, kk => cases hv
  | k + 4, hv, hd, kk => cases hv
/-- an array into a field of the object at the head of the world, in a constructor -/
theorem zn_put {H : Heap} {locs : List Loc} {cells slots pc ci k j h0 q : Nat} {ty : FieldType} {fs : List Value} {ar : va_W} {ls : Array Slot} {rest : List Value} (hx : p.tables.exec = Jvm.exec) (hb : c.code = cc) (hts : ∀ w ∈ zWS, w.before args s = true) (hown : s.vm.findClass own = some m.cls) (hin2 : meth.name = "<init>") (hK : va_K D zCL (zTL ca) s) (hP : va_P D zCL ((h0, .inr (ci, fs)) :: ar) H) (hD : va_D A ((h0, .inr (ci, fs)) :: ar)) (hS : va_S A s.heap H locs) (hl : fs.length = z_nf ci) (hf : zn_fd own ci k j ty = true) (hnw : narrow ty (.ref q) = .ref q) (hft : fits ty (.ref q) = true) (hd : decode cc pc = .ok (.putfield j, 3))
    (kk : ∀ (H1 : Heap) (locs1 : List Loc), va_P D zCL ((h0, .inr (ci, fs.set k (.ref q))) :: ar) H1 → va_D A ((h0, .inr (ci, fs.set k (.ref q))) :: ar) → va_S A s.heap H1 locs1 → W p l e R s m args below meth c H1 locs1 cells slots Q (F0 m (pc + 3) ls rest)) : W p l e R s m args below meth c H locs cells slots Q (F0 m pc ls (.ref q :: .ref h0 :: rest)) := by
  unfold zn_fd at hf
  cases hq : zCL[ci]? with
  | none => rw [hq] at hf; cases hf
  | some t =>
    rw [hq] at hf
    simp only [Bool.and_eq_true, Bool.or_eq_true, decide_eq_true_eq, Bool.not_eq_true'] at hf
    obtain ⟨⟨⟨f1, f2⟩, f3⟩, f4⟩ := hf
    obtain ⟨C, T, N⟩ := t
    have hN : N = z_nf ci := z_nfok hq
    have hty : parseFieldDescriptor (T k).2.2.1 = some ty := by rw [← f4]; exact z_tyok hq k f1
    cases hfin : (T k).2.2.2 with
    | true =>
      have f3' : (T k).1 = own := by
        rcases f3 with h | h
        · rw [show (T k).2.2.2 = false from h] at hfin
          cases hfin
        · exact h
      exact va_putF (D := D) (cl := zCL) (tys := zTL ca) (ci := ci) (C := C) (T := T) (N := N) hx hb hts (z_inFw hq) (z_ty ci) (z_tyok hq) (z_nmok hq) hown hK hP hD hS 0 rfl hq k f1 (hts _ f2) (fun _ h => h) hfin hin2 f3' hty hnw hft (by rw [hl, ← hN]; exact f1) hd kk
    | false =>
      exact va_put (D := D) (cl := zCL) (tys := zTL ca) (ci := ci) (C := C) (T := T) (N := N) hx hb hts (z_inFw hq) (z_ty ci) (z_tyok hq) (z_nmok hq) hown hK hP hD hS 0 rfl hq k f1 (hts _ f2) (fun _ h => h) hfin hty hnw hft (by rw [hl, ← hN]; exact f1) hd kk
theorem zn_chain {ci h0 : Nat} {rest : List Value} {ls : Array Slot} (hx : p.tables.exec = Jvm.exec) (hb : c.code = cc) (hts : ∀ w ∈ zWS, w.before args s = true) (hown : s.vm.findClass own = some m.cls) (hin2 : meth.name = "<init>") (hK : va_K D zCL (zTL ca) s) (hA : ∀ q, s.heap.size ≤ q → A q) (hl0 : ls[0]? = some (.val (.ref h0))) : ∀ (L : List zNE) (pc : Nat) (fs : List Value) (ar : va_W) (H : Heap) (locs : List Loc) (cells slots : Nat), zn_ok cc own ci pc L = true → fs.length = z_nf ci → va_P D zCL ((h0, .inr (ci, fs)) :: ar) H → va_D A ((h0, .inr (ci, fs)) :: ar) → va_S A s.heap H locs → cells + L.length ≤ R.cells → slots + zn_sz L ≤ R.slots →
    (∀ (qs : List Nat) (H1 : Heap) (locs1 : List Loc), qs.length = L.length → va_P D zCL ((h0, .inr (ci, zn_fs L qs fs)) :: (ar ++ zn_ar ca L qs)) H1 → va_D A ((h0, .inr (ci, zn_fs L qs fs)) :: (ar ++ zn_ar ca L qs)) → va_S A s.heap H1 locs1 → W p l e R s m args below meth c H1 locs1 (cells + L.length) (slots + zn_sz L) Q (F0 m (zn_end pc L) ls rest)) → W p l e R s m args below meth c H locs cells slots Q (F0 m pc ls rest)
  | [], pc, fs, ar, H, locs, cells, slots, hok, hl, hP, hD, hS, hc, hs, kk => by
    exact kk [] H locs rfl (by show va_P D zCL ((h0, .inr (ci, fs)) :: (ar ++ [])) H; rw [List.append_nil]; exact hP) (by show va_D A ((h0, .inr (ci, fs)) :: (ar ++ [])); rw [List.append_nil]; exact hD) hS
  | (N, len, b, k, j) :: r, pc, fs, ar, H, locs, cells, slots, hok, hl, hP, hD, hS, hc, hs, kk => by
    simp only [zn_ok, Bool.and_eq_true, decide_eq_true_eq] at hok
    obtain ⟨⟨⟨⟨⟨⟨⟨d1, d2⟩, d3⟩, d4⟩, d5⟩, d6⟩, d7⟩, d8⟩ := hok
    rw [List.length_cons] at hc
    rw [zn_sz] at hs
    refine lv_aload_n hx hb d1 rfl hl0 ?_
    refine zn_push hx hb d3 d2 ?_
    refine zn_new b hx hb hts hK hP hD hS hA d7 (by omega) (by omega) d4 (fun q H1 hP1 hD1 hS1 => ?_)
    refine zn_put hx hb hts hown hin2 hK hP1 hD1 hS1 hl d6 rfl rfl d5 (fun H2 locs2 hP2 hD2 hS2 => ?_)
    refine zn_chain hx hb hts hown hin2 hK hA hl0 r (pc + 1 + len + 2 + 3) (fs.set k (.ref q)) (ar ++ [(q, .inl (ca (bif b then 1 else 0), N, .inl (fun _ => 0)))]) H2 locs2 (cells + 1) (slots + N) d8 (by rw [List.length_set]; exact hl) hP2 hD2 hS2 (by omega) (by omega) (fun qs H3 locs3 h1 h2 h3 h4 => ?_)
    have h5 := kk (q :: qs) H3 locs3 (by rw [List.length_cons, List.length_cons, h1]) (by rw [zn_fs, zn_ar]; rw [List.append_assoc] at h2; exact h2) (by rw [zn_fs, zn_ar]; rw [List.append_assoc] at h3; exact h3) h4
    rw [List.length_cons, zn_sz, show cells + (r.length + 1) = cells + 1 + r.length by omega, show slots + (N + zn_sz r) = slots + N + zn_sz r by omega, zn_end] at h5
    exact h5
end Cn
theorem zn_map (qs : List Nat) {n : Nat} (h : qs.length = n) : qs = (List.range n).map (fun i => qs.getD i 0) := by
  apply List.ext_getElem?
  intro i
  rw [List.getElem?_map]
  by_cases hi : i < n
  · rw [List.getElem?_range hi, Option.map_some, List.getD_eq_getElem?_getD, List.getElem?_eq_getElem (by omega), Option.getD_some]
  · rw [List.getElem?_eq_none (by omega), List.getElem?_eq_none (by simp; omega)]
    rfl
/-- the cells of an object just made, its addresses by a: a 0 its own, a (k + 1) that of its field k -/
def zGZ : zSG := fun _ _ => (fun _ => 0, fun _ _ => 0)
def zOb (ca : Nat → ClassId) (c : Nat) (a : Nat → Nat) : va_W := (zWI.filter (fun q => Nat.beq q.1 c && Nat.beq q.2.1 0)).map (fun q => (a q.2.2, z_cell (fun c' _ k => bif Nat.beq c' 9 then a 9 else a k) ca zGZ q))
/-- what is there before a constructor: the object's cell with its first values -/
def zDf (c : Nat) : List Value := (List.range (z_nf c)).map (fun k => match z_fk c k with
  | (0, _) => .int 0
  | _ => .null)
def zPi (D : va_G) (ca : Nat → ClassId) (A : Nat → Prop) (c h0 : Nat) (U : State) : Prop := va_K D zCL (zTL ca) U ∧ va_P D zCL [(h0, .inr (c, zDf c))] U.heap ∧ va_D A [(h0, .inr (c, zDf c))] ∧ ∀ q, U.heap.size ≤ q → A q
theorem zPi_blind {D : va_G} {ca : Nat → ClassId} {A : Nat → Prop} {c h0 : Nat} : FrameBlind (va_Pc [.ref h0] (zPi D ca A c h0)) := by
  intro a U g' mk h
  obtain ⟨h1, h2, h3, h4, h5⟩ := h
  exact ⟨h1, va_K.moved (u := U) (U := U.calling g' mk a) (Vm.Alike.refl U.vm) h2, h3, h4, h5⟩
def zNL0 : List zNE := [(30, 2, false, 0, 9), (30, 2, false, 1, 15), (30, 2, false, 2, 18), (30, 2, false, 3, 21), (30, 2, false, 4, 24), (30, 2, false, 5, 27), (30, 2, false, 6, 30)]
def zNL1 : List zNE := [(400, 3, false, 0, 9), (0, 1, false, 1, 15)]
def zNL2 : List zNE := [(8, 2, false, 0, 9), (240, 3, false, 1, 15), (30, 2, false, 2, 18), (30, 2, false, 3, 21), (30, 2, false, 4, 24), (30, 2, false, 5, 27), (30, 2, true, 6, 30), (4, 1, false, 7, 34), (16, 2, false, 9, 37), (8, 2, false, 10, 40), (32, 2, false, 11, 43)]
def zNL5 : List zNE := [(400, 3, false, 9, 13), (500, 3, false, 10, 17), (500, 3, false, 11, 20), (4000, 3, false, 12, 23), (4000, 3, false, 13, 26), (8, 2, false, 14, 29), (8, 2, false, 15, 32), (8, 2, false, 17, 35), (16, 2, false, 18, 38), (30, 2, false, 19, 41), (30, 2, false, 20, 44), (30, 2, false, 21, 47), (30, 2, false, 22, 50), (30, 2, false, 23, 53), (30, 2, false, 24, 56), (30, 2, false, 25, 59), (30, 2, false, 26, 62), (240, 3, false, 27, 65), (30, 2, false, 28, 68), (30, 2, false, 29, 71), (30, 2, false, 30, 74), (8, 2, false, 31, 77), (128, 3, false, 32, 80), (240, 3, true, 33, 83), (30, 2, true, 34, 87), (32, 2, true, 39, 90), (30, 2, false, 40, 93), (240, 3, false, 41, 96), (30, 2, false, 42, 99)]
def zNL4 : List zNE := [(400, 3, false, 0, 9), (8, 2, false, 1, 13), (16, 2, false, 2, 16), (32, 2, true, 3, 19)]
def zn_a (ps : List Nat) (h0 : Nat) (f : Nat → Nat) (k : Nat) : Nat := match k with
  | 0 => h0
  | k + 1 => f (ps.getD k 0)
def zn_W (ca : Nat → ClassId) (ci : Nat) (L : List zNE) (h0 : Nat) (f : Nat → Nat) : va_W := (h0, .inr (ci, zn_fs L ((List.range L.length).map f) (zDf ci))) :: zn_ar ca L ((List.range L.length).map f)
theorem zDf_len (c : Nat) : (zDf c).length = z_nf c := by
  unfold zDf
  rw [List.length_map, List.length_range]
def zi_w (own : String) (cc : ByteArray) (j0 : Nat) : Bool := decide (decode cc 0 = .ok (.aload_n 0, 1)) && decide (decode cc 1 = .ok (.invokespecial j0, 3)) && decide (Cond.methodLink own j0 Lib.objectInit ∈ zWS) && decide (Cond.instanceMethod Lib.objectInit ∈ zWS) && decide (Cond.code Lib.objectInit ⟨#[0xb1]⟩ 1 none ∈ zWS)
/-- a constructor that makes arrays for its fields, and no more -/
theorem zi_ct {l : Launch} {y : MethodName} {cc : ByteArray} {own : String} {ci j0 d : Nat} {L : List zNE} {ps is : List Nat} (hy : plainName y.cls = true) (hyo : y.cls = own) (hyn : y.name = "<init>") (hw : zi_w own cc j0 = true) (hok : zn_ok cc own ci 4 L = true) (hret : decode cc (zn_end 4 L) = .ok (.return_, 1)) (hd1 : 1 ≤ d) (hnd : va_nd is = true) (D : va_G) (ca : Nat → ClassId) (A : Nat → Prop) (h0 : Nat)
    (hs1 : ∀ f, is.filterMap (fun i => (zn_W ca ci L h0 f)[i]?) = zOb ca ci (zn_a ps h0 f)) (hs2 : ∀ f, is.map (fun i => (zn_W ca ci L h0 f)[i]?) = (zOb ca ci (zn_a ps h0 f)).map some) :
    Met l y (.code y cc 1 none :: zWS) (zrm d L.length (zn_sz L)) (va_Pc [.ref h0] (zPi D ca A ci h0)) (va_Qv (fun a : Nat → Nat => a 0 = h0) (fun a t => va_P D zCL (zOb ca ci a) t.heap ∧ va_D A (zOb ca ci a)) A) L.length (zn_sz L) A := by
  refine Met.ofW (cc := cc) (maxL := 1) (ret := none) hy rfl ?_
  intro p e s m args below meth c s₁ B hml hv
  obtain ⟨rfl, hK, hP, hD, hA⟩ := hv
  have hx := B.exec
  have hb := B.bytes
  have hr := B.returns
  have hts : ∀ w ∈ zWS, w.before _ s = true := fun w hw => atoms_spec (ws := .code y cc 1 none :: zWS) B.pre w (List.mem_cons_of_mem _ hw)
  have hown : s.vm.findClass own = some m.cls := by rw [← hyo]; exact findClass_of_methodNamed B.named
  have hlocks := B.notSynchronized
  have hin : meth.name = "<init>" := (name_of_methodNamed B.named B.method).1.trans hyn
  have hS : va_S A s.heap s.heap [] := va_S.rf
  have hl := lv_entry ([.ref h0]) (n := 1) (Nat.le_of_ble_eq_true rfl)
  rw [lg_entry_eq]
  generalize (lg_sl ([.ref h0]) ++ List.replicate (1 - (lg_sl ([.ref h0])).length) Slot.unset).toArray = ls at hl ⊢
  have hl : lv_has ls 1 [(0, .ref h0)] := hl
  simp only [zi_w, Bool.and_eq_true, decide_eq_true_eq] at hw
  obtain ⟨⟨⟨⟨d0, d1⟩, w1⟩, w2⟩, w3⟩ := hw
  have hloc : 40 ≤ (headSpec (.code y cc 1 none :: zWS) (zrm d L.length (zn_sz L))).room.locals := by show 40 ≤ 40 * d; omega
  refine lv_aload_n hx hb d0 rfl (lv_at hl 0 rfl) ?_
  refine W.objInit hx hb hown (hts _ w1) (hts _ w2) (hts _ w3) rfl (by rw [hml]; exact hl.1) rfl d1 hd1 (by show 2 * 0 + 0 + 12 ≤ _; omega) ?_
  refine W.eq (g2 := F0 m 4 ls []) rfl ?_
  refine zn_chain (own := own) hx hb hts hown hin hK hA (lv_at hl 0 rfl) L 4 (zDf ci) [] s.heap [] 0 0 hok (zDf_len ci) hP hD hS (by show 0 + L.length ≤ L.length; omega) (by show 0 + zn_sz L ≤ zn_sz L; omega) (fun qs H1 locs1 hq hP1 hD1 hS1 => ?_)
  rw [zn_map qs hq, List.nil_append] at hP1 hD1
  have hP9 := va_P.sub (ws := zn_W ca ci L h0 (fun i => qs.getD i 0)) hP1 is (hs1 _)
  have hD9 := va_D.sub (ws := zn_W ca ci L h0 (fun i => qs.getD i 0)) hD1 is hnd (hs2 _)
  refine W.widen (k := L.length) (n := zn_sz L) (by omega) (by omega) ?_
  exact W.vret hx hb hr (fun t ht hW => ⟨⟨zn_a ps h0 (fun i => qs.getD i 0), rfl, rfl, by rw [ht]; exact hP9, hD9⟩, hS1.F ht⟩) hS1.2.2 hret
theorem zi_X0 (l : Launch) (D : va_G) (ca : Nat → ClassId) (A : Nat → Prop) (h0 : Nat) : Met l yX0_init (.code yX0_init cX0_init 1 none :: zWS) (zrm 1 7 210) (va_Pc [.ref h0] (zPi D ca A 2 h0)) (va_Qv (fun a : Nat → Nat => a 0 = h0) (fun a t => va_P D zCL (zOb ca 2 a) t.heap ∧ va_D A (zOb ca 2 a)) A) 7 210 A :=
  zi_ct (own := RX0) (ci := 2) (j0 := 3) (L := zNL0) (ps := [0, 1, 2, 3, 4, 5, 6]) (is := [0, 1, 2, 3, 4, 5, 6, 7]) (by decide +kernel) rfl rfl (by decide +kernel) (by decide +kernel) (by decide +kernel) (by decide) (by decide) D ca A h0 (fun f => rfl) (fun f => rfl)
theorem zi_X1 (l : Launch) (D : va_G) (ca : Nat → ClassId) (A : Nat → Prop) (h0 : Nat) : Met l yX1_init (.code yX1_init cX1_init 1 none :: zWS) (zrm 1 2 400) (va_Pc [.ref h0] (zPi D ca A 1 h0)) (va_Qv (fun a : Nat → Nat => a 0 = h0) (fun a t => va_P D zCL (zOb ca 1 a) t.heap ∧ va_D A (zOb ca 1 a)) A) 2 400 A :=
  zi_ct (own := RX1) (ci := 1) (j0 := 3) (L := zNL1) (ps := [0, 0, 0, 0, 0, 0, 0, 0, 1]) (is := [0, 1]) (by decide +kernel) rfl rfl (by decide +kernel) (by decide +kernel) (by decide +kernel) (by decide) (by decide) D ca A h0 (fun f => rfl) (fun f => rfl)
theorem zi_X2 (l : Launch) (D : va_G) (ca : Nat → ClassId) (A : Nat → Prop) (h0 : Nat) : Met l yX2_init (.code yX2_init cX2_init 1 none :: zWS) (zrm 1 11 458) (va_Pc [.ref h0] (zPi D ca A 4 h0)) (va_Qv (fun a : Nat → Nat => a 0 = h0) (fun a t => va_P D zCL (zOb ca 4 a) t.heap ∧ va_D A (zOb ca 4 a)) A) 11 458 A :=
  zi_ct (own := RX2) (ci := 4) (j0 := 3) (L := zNL2) (ps := [0, 1, 2, 3, 4, 5, 6, 7, 0, 8, 9, 10]) (is := [0, 1, 2, 3, 4, 5, 6, 7, 8, 9, 10, 11]) (by decide +kernel) rfl rfl (by decide +kernel) (by decide +kernel) (by decide +kernel) (by decide) (by decide) D ca A h0 (fun f => rfl) (fun f => rfl)
