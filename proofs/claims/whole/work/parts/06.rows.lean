/-! ===== contracts, and the rows of the pure machine ===== -/
def zEx (k : Nat) : String := match k with
  | 0 => "java/lang/IllegalArgumentException"
  | 1 => "java/lang/IndexOutOfBoundsException"
  | _ => "java/util/NoSuchElementException"
def zWds : List (Nat × String) := [(62, "put"), (79, "say"), (84, "when"), (102, "a"), (104, "b"), (106, "id"), (108, "get"), (110, "outside")]
def zMsg : List (Nat × String) := [(229, "no such version"), (231, "no such kind"), (75, "not so many bytes on the tape"), (235, "no such key"), (103, "no such argument"), (107, "no such tick"), (239, "no such ask"), (119, "caused by one that is not lower"), (233, "no such field"), (146, "no such what"), (218, "no such rate")]
def zLen : List Nat := [3, 3, 4, 1, 1, 2, 3, 7]
def zByt : List (List Int32) := [[112, 117, 116], [115, 97, 121], [119, 104, 101, 110], [97], [98], [105, 100], [103, 101, 116], [111, 117, 116, 115, 105, 100, 101]]
def zDecl : List MethodName := [⟨"java/lang/RuntimeException", "<init>", "()V"⟩, ⟨"java/lang/RuntimeException", "<init>", "(Ljava/lang/String;)V"⟩, ⟨"java/lang/Exception", "<init>", "()V"⟩, ⟨"java/lang/Exception", "<init>", "(Ljava/lang/String;)V"⟩, ⟨"java/lang/Throwable", "<init>", "()V"⟩, ⟨"java/lang/Throwable", "<init>", "(Ljava/lang/String;)V"⟩]
def zCast : List (String × String) := [("java/lang/IllegalArgumentException", "java/lang/IllegalArgumentException"), ("java/lang/IndexOutOfBoundsException", "java/lang/IndexOutOfBoundsException"), ("java/util/NoSuchElementException", "java/util/NoSuchElementException")]
/-- what stays outside the world that is written: the scripts, statics, texts -/
def zEv (D : va_G) (ca : Nat → ClassId) (ad : zAD) (A : Nat → Prop) (g : zSG) (U : State) (H : Heap) : Prop :=
  va_P D zCL (z_sl ad ca g) H ∧ (∀ q ∈ zSI, ¬ A (z_aq ad q)) ∧ vx_Zq Bundle.tN "UNASSIGNED_STACK" Bundle.steD A U H ∧ vx_Zq Bundle.tN "SUPPRESSED_SENTINEL" Bundle.listD A U H ∧
  (∀ q ∈ zMsg, ∃ a, vk_R RX4 q.1 q.2 a U) ∧ (∀ i, i < 8 → vk_R RX1 (zWds.getD i (0, "")).1 (zWds.getD i (0, "")).2 (ad 6 i 0) U) ∧
  vk_S 8 zLen zByt (fun i => ad 6 i 0) (fun i => ad 6 i 1) A U H ∧ va_Z "java/lang/String" "COMPACT_STRINGS" "Z" (.int 1) A U H ∧
  va_Zq "jdk/internal/util/Preconditions" "SIOOBE_FORMATTER" "Ljava/util/function/BiFunction;" A U H ∧ (∀ x ∈ zDecl, va_Nw (.declares x) U) ∧ (∀ q ∈ zCast, va_Nw (.castable q.1 q.2) U)
theorem zEv.warm {D : va_G} {ca : Nat → ClassId} {ad : zAD} {A : Nat → Prop} {g : zSG} {s U : State} {H : Heap} (hW : s.WarmedH U.vm) (h : zEv D ca ad A g s H) : zEv D ca ad A g U H := by
  obtain ⟨h1, h2, h3, h4, h5, h6, h7, h8, h9, h10, h11⟩ := h
  exact ⟨h1, h2, vx_Zq.moved hW.alike h3, vx_Zq.moved hW.alike h4, fun q hq => by obtain ⟨a, ha⟩ := h5 q hq; exact ⟨a, ha.warm hW⟩, fun i hi => (h6 i hi).warm hW, h7.moved hW.alike, va_Z.moved hW.alike h8, va_Zq.moved hW.alike h9, fun x hx => (h10 x hx).warmD hW, fun q hq => (h11 q hq).warmC hW⟩
theorem zEv.same {D : va_G} {ca : Nat → ClassId} {ad : zAD} {A : Nat → Prop} {g : zSG} {s U : State} {H : Heap} (hv : U.vm = s.vm) (h : zEv D ca ad A g s H) : zEv D ca ad A g U H := by
  obtain ⟨h1, h2, h3, h4, h5, h6, h7, h8, h9, h10, h11⟩ := h
  have ha : s.vm.Alike U.vm := by rw [hv]; exact Vm.Alike.refl s.vm
  exact ⟨h1, h2, vx_Zq.moved ha h3, vx_Zq.moved ha h4, fun q hq => by obtain ⟨a, ha⟩ := h5 q hq; exact ⟨a, ha.same hv⟩, fun i hi => (h6 i hi).same hv, h7.moved ha, va_Z.moved ha h8, va_Zq.moved ha h9, fun x hx => (h10 x hx).same rfl hv.symm, fun q hq => (h11 q hq).same rfl hv.symm⟩
theorem zEv.kept {D : va_G} {ca : Nat → ClassId} {ad : zAD} {A : Nat → Prop} {g : zSG} {s : State} {H H1 : Heap} (h : zEv D ca ad A g s H) (hq : ∀ a : Nat, a < H.size → ¬ A a → H1[a]? = H[a]?) : zEv D ca ad A g s H1 := by
  obtain ⟨h1, h2, h3, h4, h5, h6, h7, h8, h9, h10, h11⟩ := h
  refine ⟨h1.kept (fun k q hk => ?_), h2, h3.kept hq, h4.kept hq, h5, h6, h7.kept hq, va_Z.kept h8 hq, va_Zq.kept h9 hq, h10, h11⟩
  have hm := List.mem_of_getElem? hk
  unfold z_sl at hm
  obtain ⟨p, hp, e⟩ := List.mem_map.mp hm
  have ha := h2 p hp
  have hlt := (h1 k q hk).lt
  rw [← e] at hlt ⊢
  exact hq _ hlt ha
theorem z_sl_cong {ad : zAD} {ca : Nat → ClassId} {g g' : zSG} (h : g' 5 = g 5) : z_sl ad ca g' = z_sl ad ca g := by
  have hi : ∀ q ∈ zSI, q.1 = 5 := by decide +kernel
  unfold z_sl
  apply List.map_congr_left
  intro q hq
  obtain ⟨c, i, k⟩ := q
  have : c = 5 := hi _ hq
  subst this
  congr 1
  cases k with
  | zero =>
    rw [z_cell_0, z_cell_0]
    have : z_fval ad g' 5 i = z_fval ad g 5 i := by
      funext j
      exact z_fval_cong (by rw [h])
    rw [this]
  | succ k =>
    unfold z_cell
    dsimp only
    rw [z_alen_eq h, h]
theorem zEv.cong {D : va_G} {ca : Nat → ClassId} {ad : zAD} {A : Nat → Prop} {g g' : zSG} {U : State} {H : Heap} (h5 : g' 5 = g 5) (h : zEv D ca ad A g U H) : zEv D ca ad A g' U H := by
  unfold zEv
  rw [z_sl_cong h5]
  exact h
/-- what a method asks -/
def zPc (D : va_G) (ca : Nat → ClassId) (ad : zAD) (A : Nat → Prop) (g : zSG) (vs : List zVV) : Array Value → State → Prop :=
  va_Pc (vs.map (z_tV ad)) (fun U => va_K D zCL (zTL ca) U ∧ zHP D ca ad A g U.heap ∧ (∀ q, U.heap.size ≤ q → A q) ∧ zEv D ca ad A g U U.heap)
/-- what it gives: back, or thrown -/
def zQ (D : va_G) (ca : Nat → ClassId) (ad : zAD) (A : Nat → Prop) (g : zSG) (r : zRR) : Array Value → State → Outcome → State → Prop := fun _ st o t => (∃ v, r.1 = .inl v ∧ o = .returned (v.map (z_tV ad)) ∧ zHP D ca ad A r.2 t.heap ∧ r.2 5 = g 5) ∧ va_F A st t
def zX (D : va_G) (ca : Nat → ClassId) (ad : zAD) (A : Nat → Prop) (g : zSG) (r : zRR) : String → State → State → Prop := fun E st t => (∃ k, r.1 = .inr k ∧ E = zEx k ∧ zHP D ca ad A r.2 t.heap ∧ r.2 5 = g 5) ∧ va_F A st t
/-- a method's contract by a function -/
def zCt (l : Launch) (y : MethodName) (bytes : ByteArray) (maxL : Nat) (ret : Option FieldType) (rm : Room) (F : List zVV → zSG → Option zRR) : Prop :=
  ∀ (D : va_G) (ca : Nat → ClassId) (ad : zAD) (A : Nat → Prop) (g : zSG) (vs : List zVV) (r : zRR), F vs g = some r →
    vx_Met l y (.code y bytes maxL ret :: zWS) rm (zPc D ca ad A g vs) (zQ D ca ad A g r) (zX D ca ad A g r) rm.cells rm.slots A
theorem zPc_blind {D : va_G} {ca : Nat → ClassId} {ad : zAD} {A : Nat → Prop} {g : zSG} {vs : List zVV} : FrameBlind (zPc D ca ad A g vs) := by
  intro a U g' mk h
  obtain ⟨h1, h2, h3, h4, h5⟩ := h
  exact ⟨h1, va_K.moved (u := U) (U := U.calling g' mk a) (Vm.Alike.refl U.vm) h2, h3, h4, h5.same rfl⟩
theorem z_cat (ad : zAD) (v : zVV) : ((z_tV ad v).category == 2) = z_isL v := by
  rcases v with x | q | x <;> rfl
theorem z_look_mem {α : Type} {l : List (Nat × α)} {i : Nat} {v : α} (h : z_look l i = some v) : (i, v) ∈ l := by
  induction l with
  | nil => cases h
  | cons q r ih =>
    unfold z_look at h
    cases hq : Nat.beq q.1 i with
    | true =>
      rw [hq] at h
      cases h
      have := Nat.eq_of_beq_eq_true hq
      subst this
      exact List.mem_cons_self
    | false =>
      rw [hq] at h
      exact List.mem_cons_of_mem _ (ih h)
def z_tL (ad : zAD) (lc : zLC) : List (Nat × Value) := lc.map (fun q => (q.1, z_tV ad q.2))
theorem z_look_ls {ad : zAD} {lc : zLC} {ls : Array Slot} {nL i : Nat} {v : zVV} (h : lv_has ls nL (z_tL ad lc)) (hv : z_look lc i = some v) : ls[i]? = some (.val (z_tV ad v)) := h.2.2 (i, z_tV ad v) (List.mem_map.mpr ⟨(i, v), z_look_mem hv, rfl⟩)
theorem z_put1_eq (ad : zAD) (lc : zLC) (i : Nat) (v : zVV) : (i, z_tV ad v) :: (z_tL ad lc).filter (fun q => !(q.1 == i) && !(q.1 + 1 == i && q.2.category == 2)) = z_tL ad (z_put1 lc i v) := by
  unfold z_tL z_put1
  rw [List.map_cons, List.filter_map]
  congr 2
  apply List.filter_congr
  intro q _
  simp only [Function.comp]
  rw [z_cat]
theorem z_put2_eq (ad : zAD) (lc : zLC) (i : Nat) (v : zVV) : (i, z_tV ad v) :: (z_tL ad lc).filter (fun q => !(q.1 == i) && (!(q.1 == i + 1) && !(q.1 + 1 == i && q.2.category == 2))) = z_tL ad (z_put2 lc i v) := by
  unfold z_tL z_put2
  rw [List.map_cons, List.filter_map]
  congr 2
  apply List.filter_congr
  intro q _
  simp only [Function.comp]
  rw [z_cat]
theorem z_keep_ls {ad : zAD} {lc : zLC} {ls : Array Slot} {nL : Nat} (live : List Nat) (h : lv_has ls nL (z_tL ad lc)) : lv_has ls nL (z_tL ad (z_keepL lc live)) := by
  refine ⟨h.1, h.2.1, fun q hq => ?_⟩
  obtain ⟨p, hp, e⟩ := List.mem_map.mp hq
  unfold z_keepL at hp
  obtain ⟨i, -, hi⟩ := List.mem_filterMap.mp hp
  cases hv : z_look lc i with
  | none => rw [hv] at hi; cases hi
  | some v =>
    rw [hv] at hi
    cases hi
    rw [← e]
    exact z_look_ls h hv
theorem z_wt_sum (ad : zAD) (st : List zVV) : ((st.map (z_tV ad)).map fun v => v.category).sum = z_wt st := by
  induction st with
  | nil => rfl
  | cons v r ih =>
    rw [List.map_cons, List.map_cons, List.sum_cons, ih, z_wt]
    congr 1
    rcases v with x | q | x <;> rfl
theorem z_inb_iff {x : Int32} {n : Nat} : z_inb x n ↔ vp_in x n := vp_in_iff.symm
/-- the goal of a walk: from here, with these variables, this stack and state, the method gives r -/
def zG (p : Program) (l : Launch) (e : Env) (R : Room) (s : State) (m : MethodId) (args : Array Value) (below : List Frame) (meth : Method) (c : Code) (D : va_G) (ca : Nat → ClassId) (ad : zAD) (A : Nat → Prop) (g0 : zSG) (nL : Nat) (pc : Nat) (lc : zLC) (st : List zVV) (g : zSG) (b : Nat × Nat) (r : zRR) : Prop :=
  ∀ (H : Heap) (locs : List Loc) (cells slots : Nat) (ls : Array Slot), zHP D ca ad A g H → va_S A s.heap H locs → lv_has ls nL (z_tL ad lc) → cells + b.1 ≤ R.cells → slots + b.2 ≤ R.slots → g 5 = g0 5 →
    W p l e R s m args below meth c H locs cells slots (vx_MQ below (zQ D ca ad A g0 r) (zX D ca ad A g0 r) args s R.cells R.slots A) (F0 m pc ls (st.map (z_tV ad)))
section Rows
variable {p : Program} {l : Launch} {e : Env} {R : Room} {s : State} {m : MethodId} {args : Array Value} {below : List Frame} {meth : Method} {c : Code} {D : va_G} {ca : Nat → ClassId} {ad : zAD} {A : Nat → Prop} {g0 : zSG} {nL pc : Nat} {lc : zLC} {st : List zVV} {g : zSG} {b : Nat × Nat} {r : zRR} {cc : ByteArray} {own : String}
theorem zs_iconst (hx : p.tables.exec = Jvm.exec) (hb : c.code = cc) {n : Int} (hd : decode cc pc = .ok (.iconst n, 1)) (hk : zG p l e R s m args below meth c D ca ad A g0 nL (pc + 1) (lc) (.inl (Int32.ofInt n) :: st) g b r) : zG p l e R s m args below meth c D ca ad A g0 nL (pc) (lc) (st) g b r := fun H locs cells slots ls hP hS hl h1 h2 h5 => lv_iconst hx hb hd rfl (hk H locs cells slots ls hP hS hl h1 h2 h5)
theorem zs_bipush (hx : p.tables.exec = Jvm.exec) (hb : c.code = cc) {n : Int} (hd : decode cc pc = .ok (.bipush n, 2)) (hk : zG p l e R s m args below meth c D ca ad A g0 nL (pc + 2) (lc) (.inl (z_bi n) :: st) g b r) : zG p l e R s m args below meth c D ca ad A g0 nL (pc) (lc) (st) g b r := fun H locs cells slots ls hP hS hl h1 h2 h5 => lv_bipush hx hb hd rfl (hk H locs cells slots ls hP hS hl h1 h2 h5)
theorem zs_sipush (hx : p.tables.exec = Jvm.exec) (hb : c.code = cc) {n : Int} (hd : decode cc pc = .ok (.sipush n, 3)) (hk : zG p l e R s m args below meth c D ca ad A g0 nL (pc + 3) (lc) (.inl (z_si n) :: st) g b r) : zG p l e R s m args below meth c D ca ad A g0 nL (pc) (lc) (st) g b r := fun H locs cells slots ls hP hS hl h1 h2 h5 => lv_sipush hx hb hd rfl (hk H locs cells slots ls hP hS hl h1 h2 h5)
theorem zs_lconst (hx : p.tables.exec = Jvm.exec) (hb : c.code = cc) {n : Fin 2} (hd : decode cc pc = .ok (.lconst n, 1)) (hk : zG p l e R s m args below meth c D ca ad A g0 nL (pc + 1) (lc) (.inr (.inr (Int64.ofNat (n : Nat))) :: st) g b r) : zG p l e R s m args below meth c D ca ad A g0 nL (pc) (lc) (st) g b r := fun H locs cells slots ls hP hS hl h1 h2 h5 => lv_lconst hx hb hd rfl (hk H locs cells slots ls hP hS hl h1 h2 h5)
theorem zs_iload_n (hx : p.tables.exec = Jvm.exec) (hb : c.code = cc) {j : Fin 4} {x : Int32} (hv : z_look lc j = some (.inl x)) (hd : decode cc pc = .ok (.iload_n j, 1)) (hk : zG p l e R s m args below meth c D ca ad A g0 nL (pc + 1) (lc) (.inl x :: st) g b r) : zG p l e R s m args below meth c D ca ad A g0 nL (pc) (lc) (st) g b r := fun H locs cells slots ls hP hS hl h1 h2 h5 => lv_iload_n hx hb hd rfl (z_look_ls hl hv) (hk H locs cells slots ls hP hS hl h1 h2 h5)
theorem zs_iload (hx : p.tables.exec = Jvm.exec) (hb : c.code = cc) {j : Nat} {x : Int32} (hv : z_look lc j = some (.inl x)) (hd : decode cc pc = .ok (.iload j, 2)) (hk : zG p l e R s m args below meth c D ca ad A g0 nL (pc + 2) (lc) (.inl x :: st) g b r) : zG p l e R s m args below meth c D ca ad A g0 nL (pc) (lc) (st) g b r := fun H locs cells slots ls hP hS hl h1 h2 h5 => lv_iload hx hb hd (z_look_ls hl hv) (hk H locs cells slots ls hP hS hl h1 h2 h5)
theorem zs_aload_n (hx : p.tables.exec = Jvm.exec) (hb : c.code = cc) {j : Fin 4} {x : Nat × Nat × Nat} (hv : z_look lc j = some (.inr (.inl x))) (hd : decode cc pc = .ok (.aload_n j, 1)) (hk : zG p l e R s m args below meth c D ca ad A g0 nL (pc + 1) (lc) (.inr (.inl x) :: st) g b r) : zG p l e R s m args below meth c D ca ad A g0 nL (pc) (lc) (st) g b r := fun H locs cells slots ls hP hS hl h1 h2 h5 => lv_aload_n hx hb hd rfl (z_look_ls hl hv) (hk H locs cells slots ls hP hS hl h1 h2 h5)
theorem zs_aload (hx : p.tables.exec = Jvm.exec) (hb : c.code = cc) {j : Nat} {x : Nat × Nat × Nat} (hv : z_look lc j = some (.inr (.inl x))) (hd : decode cc pc = .ok (.aload j, 2)) (hk : zG p l e R s m args below meth c D ca ad A g0 nL (pc + 2) (lc) (.inr (.inl x) :: st) g b r) : zG p l e R s m args below meth c D ca ad A g0 nL (pc) (lc) (st) g b r := fun H locs cells slots ls hP hS hl h1 h2 h5 => lv_aload hx hb hd (z_look_ls hl hv) (hk H locs cells slots ls hP hS hl h1 h2 h5)
theorem zs_lload_n (hx : p.tables.exec = Jvm.exec) (hb : c.code = cc) {j : Fin 4} {x : Int64} (hv : z_look lc j = some (.inr (.inr x))) (hd : decode cc pc = .ok (.lload_n j, 1)) (hk : zG p l e R s m args below meth c D ca ad A g0 nL (pc + 1) (lc) (.inr (.inr x) :: st) g b r) : zG p l e R s m args below meth c D ca ad A g0 nL (pc) (lc) (st) g b r := fun H locs cells slots ls hP hS hl h1 h2 h5 => lv_lload_n hx hb hd rfl (z_look_ls hl hv) (hk H locs cells slots ls hP hS hl h1 h2 h5)
theorem zs_lload (hx : p.tables.exec = Jvm.exec) (hb : c.code = cc) {j : Nat} {x : Int64} (hv : z_look lc j = some (.inr (.inr x))) (hd : decode cc pc = .ok (.lload j, 2)) (hk : zG p l e R s m args below meth c D ca ad A g0 nL (pc + 2) (lc) (.inr (.inr x) :: st) g b r) : zG p l e R s m args below meth c D ca ad A g0 nL (pc) (lc) (st) g b r := fun H locs cells slots ls hP hS hl h1 h2 h5 => lv_lload hx hb hd (z_look_ls hl hv) (hk H locs cells slots ls hP hS hl h1 h2 h5)
theorem zs_istore_n (hx : p.tables.exec = Jvm.exec) (hb : c.code = cc) {j : Fin 4} {x : Int32} (hn : (j : Nat) < nL) (hd : decode cc pc = .ok (.istore_n j, 1)) (hk : zG p l e R s m args below meth c D ca ad A g0 nL (pc + 1) (z_put1 lc j (.inl x)) (st) g b r) : zG p l e R s m args below meth c D ca ad A g0 nL (pc) (lc) (.inl x :: st) g b r := fun H locs cells slots ls hP hS hl h1 h2 h5 => lv_istore_n hx hb hd rfl hl hn (z_put1_eq ad lc j (.inl x)) (fun ls hl => hk H locs cells slots ls hP hS hl h1 h2 h5)
theorem zs_istore (hx : p.tables.exec = Jvm.exec) (hb : c.code = cc) {j : Nat} {x : Int32} (hn : j < nL) (hd : decode cc pc = .ok (.istore j, 2)) (hk : zG p l e R s m args below meth c D ca ad A g0 nL (pc + 2) (z_put1 lc j (.inl x)) (st) g b r) : zG p l e R s m args below meth c D ca ad A g0 nL (pc) (lc) (.inl x :: st) g b r := fun H locs cells slots ls hP hS hl h1 h2 h5 => lv_istore hx hb hd hl hn (z_put1_eq ad lc j (.inl x)) (fun ls hl => hk H locs cells slots ls hP hS hl h1 h2 h5)
theorem zs_astore_n (hx : p.tables.exec = Jvm.exec) (hb : c.code = cc) {j : Fin 4} {x : Nat × Nat × Nat} (hn : (j : Nat) < nL) (hd : decode cc pc = .ok (.astore_n j, 1)) (hk : zG p l e R s m args below meth c D ca ad A g0 nL (pc + 1) (z_put1 lc j (.inr (.inl x))) (st) g b r) : zG p l e R s m args below meth c D ca ad A g0 nL (pc) (lc) (.inr (.inl x) :: st) g b r := fun H locs cells slots ls hP hS hl h1 h2 h5 => lv_astore_n hx hb hd rfl hl hn (z_put1_eq ad lc j (.inr (.inl x))) (fun ls hl => hk H locs cells slots ls hP hS hl h1 h2 h5)
theorem zs_astore (hx : p.tables.exec = Jvm.exec) (hb : c.code = cc) {j : Nat} {x : Nat × Nat × Nat} (hn : j < nL) (hd : decode cc pc = .ok (.astore j, 2)) (hk : zG p l e R s m args below meth c D ca ad A g0 nL (pc + 2) (z_put1 lc j (.inr (.inl x))) (st) g b r) : zG p l e R s m args below meth c D ca ad A g0 nL (pc) (lc) (.inr (.inl x) :: st) g b r := fun H locs cells slots ls hP hS hl h1 h2 h5 => lv_astore hx hb hd hl hn (z_put1_eq ad lc j (.inr (.inl x))) (fun ls hl => hk H locs cells slots ls hP hS hl h1 h2 h5)
theorem zs_lstore_n (hx : p.tables.exec = Jvm.exec) (hb : c.code = cc) {j : Fin 4} {x : Int64} (hn : (j : Nat) + 1 < nL) (hd : decode cc pc = .ok (.lstore_n j, 1)) (hk : zG p l e R s m args below meth c D ca ad A g0 nL (pc + 1) (z_put2 lc j (.inr (.inr x))) (st) g b r) : zG p l e R s m args below meth c D ca ad A g0 nL (pc) (lc) (.inr (.inr x) :: st) g b r := fun H locs cells slots ls hP hS hl h1 h2 h5 => lv_lstore_n hx hb hd rfl hl hn (z_put2_eq ad lc j (.inr (.inr x))) (fun ls hl => hk H locs cells slots ls hP hS hl h1 h2 h5)
theorem zs_iinc (hx : p.tables.exec = Jvm.exec) (hb : c.code = cc) {j : Nat} {n : Int} {x : Int32} (hv : z_look lc j = some (.inl x)) (hn : j < nL) (hd : decode cc pc = .ok (.iinc j n, 3)) (hk : zG p l e R s m args below meth c D ca ad A g0 nL (pc + 3) (z_put1 lc j (.inl (x + Int32.ofInt n))) (st) g b r) : zG p l e R s m args below meth c D ca ad A g0 nL (pc) (lc) (st) g b r := by
  intro H locs cells slots ls hP hS hl h1 h2 h5
  obtain ⟨k, hk2⟩ := List.getElem?_of_mem (show (j, Value.int x) ∈ z_tL ad lc from List.mem_map.mpr ⟨(j, .inl x), z_look_mem hv, rfl⟩)
  exact lv_iinc hx hb hd hl (k := k) hk2 rfl hn (z_put1_eq ad lc j (.inl (x + Int32.ofInt n))) (fun ls hl => hk H locs cells slots ls hP hS hl h1 h2 h5)
theorem zs_iadd (hx : p.tables.exec = Jvm.exec) (hb : c.code = cc) {x y : Int32} (hd : decode cc pc = .ok (.iadd, 1)) (hk : zG p l e R s m args below meth c D ca ad A g0 nL (pc + 1) (lc) (.inl (x + y) :: st) g b r) : zG p l e R s m args below meth c D ca ad A g0 nL (pc) (lc) (.inl y :: .inl x :: st) g b r := fun H locs cells slots ls hP hS hl h1 h2 h5 => lv_iadd hx hb hd (hk H locs cells slots ls hP hS hl h1 h2 h5)
theorem zs_isub (hx : p.tables.exec = Jvm.exec) (hb : c.code = cc) {x y : Int32} (hd : decode cc pc = .ok (.isub, 1)) (hk : zG p l e R s m args below meth c D ca ad A g0 nL (pc + 1) (lc) (.inl (x - y) :: st) g b r) : zG p l e R s m args below meth c D ca ad A g0 nL (pc) (lc) (.inl y :: .inl x :: st) g b r := fun H locs cells slots ls hP hS hl h1 h2 h5 => lv_isub hx hb hd (hk H locs cells slots ls hP hS hl h1 h2 h5)
theorem zs_imul (hx : p.tables.exec = Jvm.exec) (hb : c.code = cc) {x y : Int32} (hd : decode cc pc = .ok (.imul, 1)) (hk : zG p l e R s m args below meth c D ca ad A g0 nL (pc + 1) (lc) (.inl (x * y) :: st) g b r) : zG p l e R s m args below meth c D ca ad A g0 nL (pc) (lc) (.inl y :: .inl x :: st) g b r := fun H locs cells slots ls hP hS hl h1 h2 h5 => lv_imul hx hb hd (hk H locs cells slots ls hP hS hl h1 h2 h5)
theorem zs_iand (hx : p.tables.exec = Jvm.exec) (hb : c.code = cc) {x y : Int32} (hd : decode cc pc = .ok (.iand, 1)) (hk : zG p l e R s m args below meth c D ca ad A g0 nL (pc + 1) (lc) (.inl (x &&& y) :: st) g b r) : zG p l e R s m args below meth c D ca ad A g0 nL (pc) (lc) (.inl y :: .inl x :: st) g b r := fun H locs cells slots ls hP hS hl h1 h2 h5 => lv_iand hx hb hd (hk H locs cells slots ls hP hS hl h1 h2 h5)
theorem zs_ior (hx : p.tables.exec = Jvm.exec) (hb : c.code = cc) {x y : Int32} (hd : decode cc pc = .ok (.ior, 1)) (hk : zG p l e R s m args below meth c D ca ad A g0 nL (pc + 1) (lc) (.inl (x ||| y) :: st) g b r) : zG p l e R s m args below meth c D ca ad A g0 nL (pc) (lc) (.inl y :: .inl x :: st) g b r := fun H locs cells slots ls hP hS hl h1 h2 h5 => lv_ior hx hb hd (hk H locs cells slots ls hP hS hl h1 h2 h5)
theorem zs_ishl (hx : p.tables.exec = Jvm.exec) (hb : c.code = cc) {x y : Int32} (hd : decode cc pc = .ok (.ishl, 1)) (hk : zG p l e R s m args below meth c D ca ad A g0 nL (pc + 1) (lc) (.inl (x <<< (y &&& 31)) :: st) g b r) : zG p l e R s m args below meth c D ca ad A g0 nL (pc) (lc) (.inl y :: .inl x :: st) g b r := fun H locs cells slots ls hP hS hl h1 h2 h5 => lv_ishl hx hb hd (hk H locs cells slots ls hP hS hl h1 h2 h5)
theorem zs_ishr (hx : p.tables.exec = Jvm.exec) (hb : c.code = cc) {x y : Int32} (hd : decode cc pc = .ok (.ishr, 1)) (hk : zG p l e R s m args below meth c D ca ad A g0 nL (pc + 1) (lc) (.inl (x >>> (y &&& 31)) :: st) g b r) : zG p l e R s m args below meth c D ca ad A g0 nL (pc) (lc) (.inl y :: .inl x :: st) g b r := fun H locs cells slots ls hP hS hl h1 h2 h5 => lv_ishr hx hb hd (hk H locs cells slots ls hP hS hl h1 h2 h5)
theorem zs_iushr (hx : p.tables.exec = Jvm.exec) (hb : c.code = cc) {x y : Int32} (hd : decode cc pc = .ok (.iushr, 1)) (hk : zG p l e R s m args below meth c D ca ad A g0 nL (pc + 1) (lc) (.inl ((x.toUInt32 >>> (y.toUInt32 &&& Int32.toUInt32 31)).toInt32) :: st) g b r) : zG p l e R s m args below meth c D ca ad A g0 nL (pc) (lc) (.inl y :: .inl x :: st) g b r := fun H locs cells slots ls hP hS hl h1 h2 h5 => lv_iushr hx hb hd rfl (hk H locs cells slots ls hP hS hl h1 h2 h5)
theorem zs_idiv (hx : p.tables.exec = Jvm.exec) (hb : c.code = cc) {x y : Int32} (hne : ¬ y = 0) (hd : decode cc pc = .ok (.idiv, 1)) (hk : zG p l e R s m args below meth c D ca ad A g0 nL (pc + 1) (lc) (.inl (x / y) :: st) g b r) : zG p l e R s m args below meth c D ca ad A g0 nL (pc) (lc) (.inl y :: .inl x :: st) g b r := fun H locs cells slots ls hP hS hl h1 h2 h5 => lv_idiv hx hb hd hne (hk H locs cells slots ls hP hS hl h1 h2 h5)
theorem zs_irem (hx : p.tables.exec = Jvm.exec) (hb : c.code = cc) {x y : Int32} (hne : ¬ y = 0) (hd : decode cc pc = .ok (.irem, 1)) (hk : zG p l e R s m args below meth c D ca ad A g0 nL (pc + 1) (lc) (.inl (x - x / y * y) :: st) g b r) : zG p l e R s m args below meth c D ca ad A g0 nL (pc) (lc) (.inl y :: .inl x :: st) g b r := fun H locs cells slots ls hP hS hl h1 h2 h5 => lv_irem hx hb hd hne (hk H locs cells slots ls hP hS hl h1 h2 h5)
theorem zs_i2l (hx : p.tables.exec = Jvm.exec) (hb : c.code = cc) {x : Int32} (hd : decode cc pc = .ok (.i2l, 1)) (hk : zG p l e R s m args below meth c D ca ad A g0 nL (pc + 1) (lc) (.inr (.inr x.toInt64) :: st) g b r) : zG p l e R s m args below meth c D ca ad A g0 nL (pc) (lc) (.inl x :: st) g b r := fun H locs cells slots ls hP hS hl h1 h2 h5 => lv_i2l hx hb hd rfl (hk H locs cells slots ls hP hS hl h1 h2 h5)
theorem zs_lor (hx : p.tables.exec = Jvm.exec) (hb : c.code = cc) {x y : Int64} (hd : decode cc pc = .ok (.lor, 1)) (hk : zG p l e R s m args below meth c D ca ad A g0 nL (pc + 1) (lc) (.inr (.inr (x ||| y)) :: st) g b r) : zG p l e R s m args below meth c D ca ad A g0 nL (pc) (lc) (.inr (.inr y) :: .inr (.inr x) :: st) g b r := fun H locs cells slots ls hP hS hl h1 h2 h5 => lv_lor hx hb hd (hk H locs cells slots ls hP hS hl h1 h2 h5)
theorem zs_lshl (hx : p.tables.exec = Jvm.exec) (hb : c.code = cc) {x : Int64} {y : Int32} (hd : decode cc pc = .ok (.lshl, 1)) (hk : zG p l e R s m args below meth c D ca ad A g0 nL (pc + 1) (lc) (.inr (.inr (x <<< (y.toInt64 &&& 63))) :: st) g b r) : zG p l e R s m args below meth c D ca ad A g0 nL (pc) (lc) (.inl y :: .inr (.inr x) :: st) g b r := fun H locs cells slots ls hP hS hl h1 h2 h5 => lv_lshl hx hb hd rfl (hk H locs cells slots ls hP hS hl h1 h2 h5)
theorem zs_lcmp (hx : p.tables.exec = Jvm.exec) (hb : c.code = cc) {x y : Int64} (hd : decode cc pc = .ok (.lcmp, 1)) (hk : zG p l e R s m args below meth c D ca ad A g0 nL (pc + 1) (lc) (.inl (lg_cmp x y) :: st) g b r) : zG p l e R s m args below meth c D ca ad A g0 nL (pc) (lc) (.inr (.inr y) :: .inr (.inr x) :: st) g b r := fun H locs cells slots ls hP hS hl h1 h2 h5 => W.lcmp hx hb hd (hk H locs cells slots ls hP hS hl h1 h2 h5)
theorem z_cat1 {ad : zAD} {v : zVV} (h : z_isL v = false) : (z_tV ad v).category = 1 := by
  rcases v with x | q | x
  · rfl
  · rfl
  · cases h
theorem zs_dup (hx : p.tables.exec = Jvm.exec) (hb : c.code = cc) {v : zVV} (hv : z_isL v = false) (hd : decode cc pc = .ok (.dup, 1)) (hk : zG p l e R s m args below meth c D ca ad A g0 nL (pc + 1) (lc) (v :: v :: st) g b r) : zG p l e R s m args below meth c D ca ad A g0 nL (pc) (lc) (v :: st) g b r := fun H locs cells slots ls hP hS hl h1 h2 h5 => lv_dup hx hb hd (z_cat1 hv) (hk H locs cells slots ls hP hS hl h1 h2 h5)
theorem zs_dup2 (hx : p.tables.exec = Jvm.exec) (hb : c.code = cc) {v w : zVV} (hv : z_isL v = false) (hw : z_isL w = false) (hd : decode cc pc = .ok (.dup2, 1)) (hk : zG p l e R s m args below meth c D ca ad A g0 nL (pc + 1) (lc) (v :: w :: v :: w :: st) g b r) : zG p l e R s m args below meth c D ca ad A g0 nL (pc) (lc) (v :: w :: st) g b r := fun H locs cells slots ls hP hS hl h1 h2 h5 => lv_dup2_11 hx hb hd (z_cat1 hv) (z_cat1 hw) (hk H locs cells slots ls hP hS hl h1 h2 h5)
theorem zs_pop (hx : p.tables.exec = Jvm.exec) (hb : c.code = cc) {v : zVV} (hv : z_isL v = false) (hd : decode cc pc = .ok (.pop, 1)) (hk : zG p l e R s m args below meth c D ca ad A g0 nL (pc + 1) (lc) (st) g b r) : zG p l e R s m args below meth c D ca ad A g0 nL (pc) (lc) (v :: st) g b r := fun H locs cells slots ls hP hS hl h1 h2 h5 => lv_pop hx hb hd (z_cat1 hv) (hk H locs cells slots ls hP hS hl h1 h2 h5)
theorem zs_goto (hx : p.tables.exec = Jvm.exec) (hb : c.code = cc) {off : Int} {tgt : Nat} (ht : (pc : Int) + off = (tgt : Int)) (hd : decode cc pc = .ok (.goto off, 3)) (hk : zG p l e R s m args below meth c D ca ad A g0 nL (tgt) (lc) (st) g b r) : zG p l e R s m args below meth c D ca ad A g0 nL (pc) (lc) (st) g b r := fun H locs cells slots ls hP hS hl h1 h2 h5 => lv_goto hx hb hd ht (hk H locs cells slots ls hP hS hl h1 h2 h5)
theorem zs_if_eq (hx : p.tables.exec = Jvm.exec) (hb : c.code = cc) {x : Int32} {off : Int} {tgt : Nat} (ht : (pc : Int) + off = (tgt : Int)) (hd : decode cc pc = .ok (.ifCond .eq off, 3)) (kt : x = 0 → zG p l e R s m args below meth c D ca ad A g0 nL (tgt) (lc) (st) g b r) (kf : ¬ x = 0 → zG p l e R s m args below meth c D ca ad A g0 nL (pc + 3) (lc) (st) g b r) : zG p l e R s m args below meth c D ca ad A g0 nL (pc) (lc) (.inl x :: st) g b r := fun H locs cells slots ls hP hS hl h1 h2 h5 => lv_if_eq hx hb hd ht (fun q => kt q H locs cells slots ls hP hS hl h1 h2 h5) (fun q => kf q H locs cells slots ls hP hS hl h1 h2 h5)
theorem zs_if_ne (hx : p.tables.exec = Jvm.exec) (hb : c.code = cc) {x : Int32} {off : Int} {tgt : Nat} (ht : (pc : Int) + off = (tgt : Int)) (hd : decode cc pc = .ok (.ifCond .ne off, 3)) (kt : ¬ x = 0 → zG p l e R s m args below meth c D ca ad A g0 nL (tgt) (lc) (st) g b r) (kf : x = 0 → zG p l e R s m args below meth c D ca ad A g0 nL (pc + 3) (lc) (st) g b r) : zG p l e R s m args below meth c D ca ad A g0 nL (pc) (lc) (.inl x :: st) g b r := fun H locs cells slots ls hP hS hl h1 h2 h5 => lv_if_ne hx hb hd ht (fun q => kt q H locs cells slots ls hP hS hl h1 h2 h5) (fun q => kf q H locs cells slots ls hP hS hl h1 h2 h5)
theorem zs_if_lt (hx : p.tables.exec = Jvm.exec) (hb : c.code = cc) {x : Int32} {off : Int} {tgt : Nat} (ht : (pc : Int) + off = (tgt : Int)) (hd : decode cc pc = .ok (.ifCond .lt off, 3)) (kt : x < 0 → zG p l e R s m args below meth c D ca ad A g0 nL (tgt) (lc) (st) g b r) (kf : ¬ x < 0 → zG p l e R s m args below meth c D ca ad A g0 nL (pc + 3) (lc) (st) g b r) : zG p l e R s m args below meth c D ca ad A g0 nL (pc) (lc) (.inl x :: st) g b r := fun H locs cells slots ls hP hS hl h1 h2 h5 => lv_if_lt hx hb hd ht (fun q => kt q H locs cells slots ls hP hS hl h1 h2 h5) (fun q => kf q H locs cells slots ls hP hS hl h1 h2 h5)
theorem zs_if_ge (hx : p.tables.exec = Jvm.exec) (hb : c.code = cc) {x : Int32} {off : Int} {tgt : Nat} (ht : (pc : Int) + off = (tgt : Int)) (hd : decode cc pc = .ok (.ifCond .ge off, 3)) (kt : 0 ≤ x → zG p l e R s m args below meth c D ca ad A g0 nL (tgt) (lc) (st) g b r) (kf : ¬ 0 ≤ x → zG p l e R s m args below meth c D ca ad A g0 nL (pc + 3) (lc) (st) g b r) : zG p l e R s m args below meth c D ca ad A g0 nL (pc) (lc) (.inl x :: st) g b r := fun H locs cells slots ls hP hS hl h1 h2 h5 => lv_if_ge hx hb hd ht (fun q => kt q H locs cells slots ls hP hS hl h1 h2 h5) (fun q => kf q H locs cells slots ls hP hS hl h1 h2 h5)
theorem zs_if_gt (hx : p.tables.exec = Jvm.exec) (hb : c.code = cc) {x : Int32} {off : Int} {tgt : Nat} (ht : (pc : Int) + off = (tgt : Int)) (hd : decode cc pc = .ok (.ifCond .gt off, 3)) (kt : 0 < x → zG p l e R s m args below meth c D ca ad A g0 nL (tgt) (lc) (st) g b r) (kf : ¬ 0 < x → zG p l e R s m args below meth c D ca ad A g0 nL (pc + 3) (lc) (st) g b r) : zG p l e R s m args below meth c D ca ad A g0 nL (pc) (lc) (.inl x :: st) g b r := fun H locs cells slots ls hP hS hl h1 h2 h5 => lv_if_gt hx hb hd ht (fun q => kt q H locs cells slots ls hP hS hl h1 h2 h5) (fun q => kf q H locs cells slots ls hP hS hl h1 h2 h5)
theorem zs_if_le (hx : p.tables.exec = Jvm.exec) (hb : c.code = cc) {x : Int32} {off : Int} {tgt : Nat} (ht : (pc : Int) + off = (tgt : Int)) (hd : decode cc pc = .ok (.ifCond .le off, 3)) (kt : x ≤ 0 → zG p l e R s m args below meth c D ca ad A g0 nL (tgt) (lc) (st) g b r) (kf : ¬ x ≤ 0 → zG p l e R s m args below meth c D ca ad A g0 nL (pc + 3) (lc) (st) g b r) : zG p l e R s m args below meth c D ca ad A g0 nL (pc) (lc) (.inl x :: st) g b r := fun H locs cells slots ls hP hS hl h1 h2 h5 => lv_if_le hx hb hd ht (fun q => kt q H locs cells slots ls hP hS hl h1 h2 h5) (fun q => kf q H locs cells slots ls hP hS hl h1 h2 h5)
theorem zs_icmp_eq (hx : p.tables.exec = Jvm.exec) (hb : c.code = cc) {x y : Int32} {off : Int} {tgt : Nat} (ht : (pc : Int) + off = (tgt : Int)) (hd : decode cc pc = .ok (.if_icmp .eq off, 3)) (kt : x = y → zG p l e R s m args below meth c D ca ad A g0 nL (tgt) (lc) (st) g b r) (kf : ¬ x = y → zG p l e R s m args below meth c D ca ad A g0 nL (pc + 3) (lc) (st) g b r) : zG p l e R s m args below meth c D ca ad A g0 nL (pc) (lc) (.inl y :: .inl x :: st) g b r := fun H locs cells slots ls hP hS hl h1 h2 h5 => lv_icmp_eq hx hb hd ht (fun q => kt q H locs cells slots ls hP hS hl h1 h2 h5) (fun q => kf q H locs cells slots ls hP hS hl h1 h2 h5)
theorem zs_icmp_ne (hx : p.tables.exec = Jvm.exec) (hb : c.code = cc) {x y : Int32} {off : Int} {tgt : Nat} (ht : (pc : Int) + off = (tgt : Int)) (hd : decode cc pc = .ok (.if_icmp .ne off, 3)) (kt : ¬ x = y → zG p l e R s m args below meth c D ca ad A g0 nL (tgt) (lc) (st) g b r) (kf : x = y → zG p l e R s m args below meth c D ca ad A g0 nL (pc + 3) (lc) (st) g b r) : zG p l e R s m args below meth c D ca ad A g0 nL (pc) (lc) (.inl y :: .inl x :: st) g b r := fun H locs cells slots ls hP hS hl h1 h2 h5 => lv_icmp_ne hx hb hd ht (fun q => kt q H locs cells slots ls hP hS hl h1 h2 h5) (fun q => kf q H locs cells slots ls hP hS hl h1 h2 h5)
theorem zs_icmp_lt (hx : p.tables.exec = Jvm.exec) (hb : c.code = cc) {x y : Int32} {off : Int} {tgt : Nat} (ht : (pc : Int) + off = (tgt : Int)) (hd : decode cc pc = .ok (.if_icmp .lt off, 3)) (kt : x < y → zG p l e R s m args below meth c D ca ad A g0 nL (tgt) (lc) (st) g b r) (kf : ¬ x < y → zG p l e R s m args below meth c D ca ad A g0 nL (pc + 3) (lc) (st) g b r) : zG p l e R s m args below meth c D ca ad A g0 nL (pc) (lc) (.inl y :: .inl x :: st) g b r := fun H locs cells slots ls hP hS hl h1 h2 h5 => lv_icmp_lt hx hb hd ht (fun q => kt q H locs cells slots ls hP hS hl h1 h2 h5) (fun q => kf q H locs cells slots ls hP hS hl h1 h2 h5)
theorem zs_icmp_ge (hx : p.tables.exec = Jvm.exec) (hb : c.code = cc) {x y : Int32} {off : Int} {tgt : Nat} (ht : (pc : Int) + off = (tgt : Int)) (hd : decode cc pc = .ok (.if_icmp .ge off, 3)) (kt : y ≤ x → zG p l e R s m args below meth c D ca ad A g0 nL (tgt) (lc) (st) g b r) (kf : ¬ y ≤ x → zG p l e R s m args below meth c D ca ad A g0 nL (pc + 3) (lc) (st) g b r) : zG p l e R s m args below meth c D ca ad A g0 nL (pc) (lc) (.inl y :: .inl x :: st) g b r := fun H locs cells slots ls hP hS hl h1 h2 h5 => lv_icmp_ge hx hb hd ht (fun q => kt q H locs cells slots ls hP hS hl h1 h2 h5) (fun q => kf q H locs cells slots ls hP hS hl h1 h2 h5)
theorem zs_icmp_gt (hx : p.tables.exec = Jvm.exec) (hb : c.code = cc) {x y : Int32} {off : Int} {tgt : Nat} (ht : (pc : Int) + off = (tgt : Int)) (hd : decode cc pc = .ok (.if_icmp .gt off, 3)) (kt : y < x → zG p l e R s m args below meth c D ca ad A g0 nL (tgt) (lc) (st) g b r) (kf : ¬ y < x → zG p l e R s m args below meth c D ca ad A g0 nL (pc + 3) (lc) (st) g b r) : zG p l e R s m args below meth c D ca ad A g0 nL (pc) (lc) (.inl y :: .inl x :: st) g b r := fun H locs cells slots ls hP hS hl h1 h2 h5 => lv_icmp_gt hx hb hd ht (fun q => kt q H locs cells slots ls hP hS hl h1 h2 h5) (fun q => kf q H locs cells slots ls hP hS hl h1 h2 h5)
theorem zs_icmp_le (hx : p.tables.exec = Jvm.exec) (hb : c.code = cc) {x y : Int32} {off : Int} {tgt : Nat} (ht : (pc : Int) + off = (tgt : Int)) (hd : decode cc pc = .ok (.if_icmp .le off, 3)) (kt : x ≤ y → zG p l e R s m args below meth c D ca ad A g0 nL (tgt) (lc) (st) g b r) (kf : ¬ x ≤ y → zG p l e R s m args below meth c D ca ad A g0 nL (pc + 3) (lc) (st) g b r) : zG p l e R s m args below meth c D ca ad A g0 nL (pc) (lc) (.inl y :: .inl x :: st) g b r := fun H locs cells slots ls hP hS hl h1 h2 h5 => lv_icmp_le hx hb hd ht (fun q => kt q H locs cells slots ls hP hS hl h1 h2 h5) (fun q => kf q H locs cells slots ls hP hS hl h1 h2 h5)
end Rows
