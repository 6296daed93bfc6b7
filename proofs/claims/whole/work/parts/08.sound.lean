/-! ===== the pure machine is sound ===== -/
def z_len (i : Instr) : Option Nat := match i with
  | .iconst _ => some 1 | .bipush _ => some 2 | .sipush _ => some 3 | .lconst _ => some 1 | .ldc _ => some 2 | .ldc_w _ => some 3 | .ldc2_w _ => some 3
  | .iload_n _ => some 1 | .iload _ => some 2 | .aload_n _ => some 1 | .aload _ => some 2 | .lload_n _ => some 1
  | .istore_n _ => some 1 | .istore _ => some 2 | .astore_n _ => some 1 | .astore _ => some 2 | .lstore_n _ => some 1
  | .iinc _ _ => some 3 | .ifCond _ _ => some 3 | .if_icmp _ _ => some 3 | .goto _ => some 3
  | .getfield _ => some 3 | .putfield _ => some 3 | .invokevirtual _ => some 3 | .invokestatic _ => some 3 | .new _ => some 3
  | .tableswitch _ _ _ _ => none
  | _ => some 1
def z_off (i : Instr) : Option Int := match i with
  | .ifCond _ o => some o
  | .if_icmp _ o => some o
  | .goto o => some o
  | _ => none
def z_okb (cc : ByteArray) (pc : Nat) (i : Instr) (nx tg : Nat) : Bool :=
  decide (decode cc pc = .ok (i, nx - pc)) && (match z_len i with
    | some n => decide (nx = pc + n)
    | none => true) && (match z_off i with
    | some o => decide ((pc : Int) + o = (tg : Int))
    | none => true)
def z_okc (cc : ByteArray) (cd : zCD) : Bool := cd.all fun q => z_okb cc q.1 q.2.1 q.2.2.1 q.2.2.2
theorem z_okc_at {cc : ByteArray} {cd : zCD} (h : z_okc cc cd = true) {pc nx tg : Nat} {i : Instr} (hl : z_look cd pc = some (i, nx, tg)) : z_okb cc pc i nx tg = true := by
  unfold z_okc at h
  have h1 := List.all_eq_true.mp h (pc, i, nx, tg) (z_look_mem hl)
  exact h1
def z_flb (own : String) (j c kf : Nat) : Bool := match zCL[c]? with
  | some q => decide (kf < q.2.2) && decide (Cond.fieldLink own j (q.2.1 kf).1 (q.2.1 kf).2.1 (q.2.1 kf).2.2.1 ∈ zWS)
  | none => false
theorem z_flb_at {own : String} {j c kf : Nat} (h : z_flb own j c kf = true) : ∃ q, zCL[c]? = some q ∧ kf < q.2.2 ∧ Cond.fieldLink own j (q.2.1 kf).1 (q.2.1 kf).2.1 (q.2.1 kf).2.2.1 ∈ zWS := by
  unfold z_flb at h
  cases hq : zCL[c]? with
  | none => rw [hq] at h; cases h
  | some q =>
    rw [hq] at h
    simp only [Bool.and_eq_true, decide_eq_true_eq] at h
    exact ⟨q, rfl, h.1, h.2⟩
def z_csb (own : String) (j : Nat) (v : zVV) : Bool := match v with
  | .inl x => decide (Cond.constant own j x ∈ zWS)
  | .inr (.inl q) => decide (own = RX1) && decide (q.1 = 6) && decide (q.2.1 < 8) && decide (q.2.2 = 0) && decide ((zWds.getD q.2.1 (0, "")).1 = j)
  | .inr (.inr x) => decide (Cond.constantLong own j x ∈ zWS)
theorem z_fk_ok0 : ((List.range 5).all fun c => (List.range (z_nf c)).all fun k => match z_fk c k, zCL[c]? with
    | (0, 0), some q => decide (z_ty c k = .int) && !(q.2.1 k).2.2.2
    | (0, _), some q => decide (z_ty c k = .boolean) && !(q.2.1 k).2.2.2
    | (3, _), some q => decide (z_ty c k = .array .int) && !(q.2.1 k).2.2.2
    | _, some _ => true
    | _, none => false) = true := by decide +kernel
theorem z_fk_ok {c k : Nat} {q : vw_C} (hc : c < 5) (hq : zCL[c]? = some q) (hk : k < q.2.2) : (match z_fk c k with
    | (0, 0) => z_ty c k = .int ∧ (q.2.1 k).2.2.2 = false
    | (0, _) => z_ty c k = .boolean ∧ (q.2.1 k).2.2.2 = false
    | (3, _) => z_ty c k = .array .int ∧ (q.2.1 k).2.2.2 = false
    | _ => True) := by
  have h := List.all_eq_true.mp (List.all_eq_true.mp z_fk_ok0 c (List.mem_range.mpr hc)) k (List.mem_range.mpr (by rw [← z_nfok hq]; exact hk))
  rw [hq] at h
  split at h <;> simp_all
section Snd
variable {p : Program} {l : Launch} {e : Env} {R : Room} {s : State} {m : MethodId} {args : Array Value} {below : List Frame} {meth : Method} {c : Code} {D : va_G} {ca : Nat → ClassId} {ad : zAD} {A : Nat → Prop} {g0 : zSG} {nL pc : Nat} {lc : zLC} {st : List zVV} {g : zSG} {b : Nat × Nat} {r : zRR} {cc : ByteArray} {own : String}
theorem zs_iret (hx : p.tables.exec = Jvm.exec) (hb : c.code = cc) (hlocks : meth.locks = false) (hr : meth.sig.returnType = some .int) {x : Int32} (hd : decode cc pc = .ok (.ireturn, 1)) : zG p l e R s m args below meth c D ca ad A g0 nL pc lc [.inl x] g b (.inl (some (.inl x)), g) := by
  intro H locs cells slots ls hP hS hl h1 h2 h5
  refine W.widen (k := R.cells) (n := R.slots) (by omega) (by omega) ?_
  refine vx_ret ?_
  exact W.iret hx hb hr (fun t ht hW => ⟨⟨some (.inl x), rfl, rfl, by rw [ht]; exact hP, h5⟩, hS.F ht⟩) hS.2.2 hd hlocks
theorem zs_zret (hx : p.tables.exec = Jvm.exec) (hb : c.code = cc) (hlocks : meth.locks = false) (hr : meth.sig.returnType = some .boolean) {x : Int32} (hv : x = 0 ∨ x = 1) (hd : decode cc pc = .ok (.ireturn, 1)) : zG p l e R s m args below meth c D ca ad A g0 nL pc lc [.inl x] g b (.inl (some (.inl x)), g) := by
  intro H locs cells slots ls hP hS hl h1 h2 h5
  refine W.widen (k := R.cells) (n := R.slots) (by omega) (by omega) ?_
  refine vx_ret ?_
  exact W.zret hx hb hr (by rcases hv with rfl | rfl <;> rfl) (fun t ht hW => ⟨⟨some (.inl x), rfl, rfl, by rw [ht]; exact hP, h5⟩, hS.F ht⟩) hS.2.2 hd hlocks
theorem zs_lret (hx : p.tables.exec = Jvm.exec) (hb : c.code = cc) (hlocks : meth.locks = false) (hr : meth.sig.returnType = some .long) {x : Int64} (hd : decode cc pc = .ok (.lreturn, 1)) : zG p l e R s m args below meth c D ca ad A g0 nL pc lc [.inr (.inr x)] g b (.inl (some (.inr (.inr x))), g) := by
  intro H locs cells slots ls hP hS hl h1 h2 h5
  refine W.widen (k := R.cells) (n := R.slots) (by omega) (by omega) ?_
  refine vx_ret ?_
  exact W.lret hx hb hr (fun t ht hW => ⟨⟨some (.inr (.inr x)), rfl, rfl, by rw [ht]; exact hP, h5⟩, hS.F ht⟩) hS.2.2 hd hlocks
theorem zs_vret (hx : p.tables.exec = Jvm.exec) (hb : c.code = cc) (hlocks : meth.locks = false) (hr : meth.sig.returnType = none) (hd : decode cc pc = .ok (.return_, 1)) : zG p l e R s m args below meth c D ca ad A g0 nL pc lc [] g b (.inl none, g) := by
  intro H locs cells slots ls hP hS hl h1 h2 h5
  refine W.widen (k := R.cells) (n := R.slots) (by omega) (by omega) ?_
  refine vx_ret ?_
  exact W.vret hx hb hr (fun t ht hW => ⟨⟨none, rfl, rfl, by rw [ht]; exact hP, h5⟩, hS.F ht⟩) hS.2.2 hd hlocks
theorem z_tsw_spec {k : Int → Option zRR} {x d : Int} : ∀ (l : List Int) (lo : Int), z_tsw k x d lo l = some r → (∃ (j : Nat) (o : Int), l[j]? = some o ∧ x = lo + (j : Int) ∧ k o = some r) ∨ ((x < lo ∨ lo + (l.length : Int) ≤ x) ∧ k d = some r) := by
  intro l
  induction l with
  | nil =>
    intro lo h
    refine Or.inr ⟨?_, h⟩
    simp only [List.length_nil]
    omega
  | cons o r ih =>
    intro lo h
    unfold z_tsw at h
    by_cases hx : x = lo
    · rw [if_pos hx] at h
      exact Or.inl ⟨0, o, rfl, by simp [hx], h⟩
    · rw [if_neg hx] at h
      rcases ih (lo + 1) h with ⟨j, o', h1, h2, h3⟩ | ⟨h1, h2⟩
      · exact Or.inl ⟨j + 1, o', by simpa using h1, by omega, h3⟩
      · refine Or.inr ⟨?_, h2⟩
        simp only [List.length_cons]
        omega
theorem zs_tsw (hx : p.tables.exec = Jvm.exec) (hb : c.code = cc) {d lo hi : Int} {offs : Array Int} {len : Nat} {x : Int32} {k : zKK} (hd : decode cc pc = .ok (.tableswitch d lo hi offs, len)) (hh : hi = lo + (offs.toList.length : Int) - 1) (hall : ∀ o ∈ d :: offs.toList, 0 ≤ (pc : Int) + o)
    (h : z_tsw (fun o => k ((pc : Int) + o).toNat lc st g b) x.toInt d lo offs.toList = some r) (hk : ∀ pc' r, k pc' lc st g b = some r → zG p l e R s m args below meth c D ca ad A g0 nL pc' lc st g b r) : zG p l e R s m args below meth c D ca ad A g0 nL pc lc (.inl x :: st) g b r := by
  intro H locs cells slots ls hP hS hl h1 h2 h5
  rcases z_tsw_spec _ _ h with ⟨j, o, q1, q2, q3⟩ | ⟨q1, q2⟩
  · have hj : j < offs.toList.length := (List.getElem?_eq_some_iff.mp q1).1
    have hm := hall o (List.mem_cons_of_mem _ (List.mem_of_getElem? q1))
    refine lv_tableIn hx hb hd (off := o) (tgt := ((pc : Int) + o).toNat) (by omega) (by omega) ?_ (by omega) (hk _ _ q3 H locs cells slots ls hP hS hl h1 h2 h5)
    rw [q2, show lo + (j : Int) - lo = (j : Int) by omega, Int.toNat_natCast, ← Array.getElem?_toList]
    exact q1
  · have hm := hall d List.mem_cons_self
    exact lv_tableOut hx hb hd (tgt := ((pc : Int) + d).toNat) (by omega) (by omega) (hk _ _ q2 H locs cells slots ls hP hS hl h1 h2 h5)
theorem zs_ldc (hx : p.tables.exec = Jvm.exec) (hb : c.code = cc) (hts : ∀ w ∈ zWS, w.before args s = true) (hown : s.vm.findClass own = some m.cls) (hE : zEv D ca ad A g0 s s.heap) {j : Nat} {v : zVV} (hv : z_csb own j v = true) (hl2 : z_isL v = false) (hd : decode cc pc = .ok (.ldc j, 2)) (hk : zG p l e R s m args below meth c D ca ad A g0 nL (pc + 2) lc (v :: st) g b r) : zG p l e R s m args below meth c D ca ad A g0 nL pc lc st g b r := by
  intro H locs cells slots ls hP hS hl h1 h2 h5
  rcases v with x | ⟨k, i, f⟩ | x
  · have h9 : decide (Cond.constant own j x ∈ zWS) = true := hv
    exact lv_ldc hx hb hown (hts _ (of_decide_eq_true h9)) hd (hk H locs cells slots ls hP hS hl h1 h2 h5)
  · simp only [z_csb, Bool.and_eq_true, decide_eq_true_eq] at hv
    obtain ⟨⟨⟨⟨rfl, rfl⟩, h8⟩, rfl⟩, hj⟩ := hv
    obtain ⟨-, -, -, -, -, e6, -⟩ := hE
    have h9 := e6 i h8
    rw [hj] at h9
    exact va_ldcS hx hb hown h9 hd (hk H locs cells slots ls hP hS hl h1 h2 h5)
  · cases hl2
theorem zs_ldcw (hx : p.tables.exec = Jvm.exec) (hb : c.code = cc) (hts : ∀ w ∈ zWS, w.before args s = true) (hown : s.vm.findClass own = some m.cls) {j : Nat} {x : Int32} (hv : z_csb own j (.inl x) = true) (hd : decode cc pc = .ok (.ldc_w j, 3)) (hk : zG p l e R s m args below meth c D ca ad A g0 nL (pc + 3) lc (.inl x :: st) g b r) : zG p l e R s m args below meth c D ca ad A g0 nL pc lc st g b r := by
  intro H locs cells slots ls hP hS hl h1 h2 h5
  have h9 : decide (Cond.constant own j x ∈ zWS) = true := hv
  exact lv_ldcw hx hb hown (hts _ (of_decide_eq_true h9)) hd (hk H locs cells slots ls hP hS hl h1 h2 h5)
theorem zs_ldc2 (hx : p.tables.exec = Jvm.exec) (hb : c.code = cc) (hts : ∀ w ∈ zWS, w.before args s = true) (hown : s.vm.findClass own = some m.cls) {j : Nat} {x : Int64} (hv : z_csb own j (.inr (.inr x)) = true) (hd : decode cc pc = .ok (.ldc2_w j, 3)) (hk : zG p l e R s m args below meth c D ca ad A g0 nL (pc + 3) lc (.inr (.inr x) :: st) g b r) : zG p l e R s m args below meth c D ca ad A g0 nL pc lc st g b r := by
  intro H locs cells slots ls hP hS hl h1 h2 h5
  have h9 : decide (Cond.constantLong own j x ∈ zWS) = true := hv
  exact lv_ldc2 hx hb hown (hts _ (of_decide_eq_true h9)) hd (hk H locs cells slots ls hP hS hl h1 h2 h5)
end Snd
