/-! ===== rows that look at the heap ===== -/
section Rows2
variable {p : Program} {l : Launch} {e : Env} {R : Room} {s : State} {m : MethodId} {args : Array Value} {below : List Frame} {meth : Method} {c : Code} {D : va_G} {ca : Nat → ClassId} {ad : zAD} {A : Nat → Prop} {g0 : zSG} {nL pc : Nat} {lc : zLC} {st : List zVV} {g : zSG} {b : Nat × Nat} {r : zRR} {cc : ByteArray} {own : String}
theorem z_one {D : va_G} {q : Nat × va_E} {H : Heap} (h : va_at D zCL q H) : va_P D zCL [q] H := by
  intro k x hk
  match k, hk with
  | 0, hk => cases hk; exact h
  | k + 1, hk => simp at hk
theorem z_atW {H : Heap} (hP : zHP D ca ad A g H) {q : Nat × Nat × Nat} (h : q ∈ zWI) : va_at D zCL (z_aq ad q, z_cell ad ca g q) H := by
  obtain ⟨k, -, h2⟩ := z_wlget (ad := ad) (ca := ca) (g := g) h
  exact hP.1 k _ h2
theorem z_atS {H : Heap} {locs : List Loc} (hE : zEv D ca ad A g0 s s.heap) (hS : va_S A s.heap H locs) (h5 : g 5 = g0 5) {q : Nat × Nat × Nat} (h : q ∈ zSI) : va_at D zCL (z_aq ad q, z_cell ad ca g q) H := by
  have h1 := (hE.kept hS.2.1).1
  rw [← z_sl_cong h5] at h1
  obtain ⟨k, hk⟩ := List.getElem?_of_mem h
  refine h1 k _ ?_
  unfold z_sl
  rw [List.getElem?_map, hk]
  rfl
/-- an object is there -/
theorem z_atO {H : Heap} {locs : List Loc} (hP : zHP D ca ad A g H) (hE : zEv D ca ad A g0 s s.heap) (hS : va_S A s.heap H locs) (h5 : g 5 = g0 5) {q : vw_C} {k o : Nat} (hq : zCL[k]? = some q) (ho : o < z_ni k) : va_at D zCL (ad k o 0, .inr (k, (List.range (z_nf k)).map (z_fval ad g k o))) H := by
  have hk : k < 6 := (List.getElem?_eq_some_iff.mp hq).1
  by_cases h : k < 5
  · exact z_atW hP (zWI_obj k h o ho)
  · have : k = 5 := by omega
    subst this
    exact z_atS hE hS h5 (zSI_obj o ho)
/-- an array is there -/
theorem z_atA {H : Heap} {locs : List Loc} (hP : zHP D ca ad A g H) (hE : zEv D ca ad A g0 s s.heap) (hS : va_S A s.heap H locs) (h5 : g 5 = g0 5) {k o f : Nat} (hk : k < 6) (ho : o < z_ni k) (hf : f < z_nf k) (ht : (z_ak k f).1 < 4) : va_at D zCL (ad k o (f + 1), z_cell ad ca g (k, o, f + 1)) H := by
  by_cases h : k < 5
  · exact z_atW hP (zWI_arr k h o ho f hf ht)
  · have : k = 5 := by omega
    subst this
    have hf0 : f = 0 := by
      match f, hf with
      | 0, _ => rfl
      | 1, _ => revert ht; decide
      | f + 2, hf => exact absurd hf (by have : z_nf 5 = 2 := rfl; omega)
    subst hf0
    exact z_atS hE hS h5 (zSI_arr o ho)
theorem z_getD_out {α : Type} (l : List α) (k : Nat) (d : α) (h : l.length ≤ k) : l.getD k d = d := by
  rw [List.getD_eq_getElem?_getD, List.getElem?_eq_none h]
  rfl
theorem z_ak_lt {k f : Nat} (hk : k < 6) (h : (z_ak k f).1 < 4) : f < z_nf k := by
  apply Nat.lt_of_not_le
  intro hf
  match k, hk with
  | 0, _ => rw [show z_ak 0 f = (9, 0) from z_getD_out _ _ _ hf] at h; exact absurd h (by decide)
  | 1, _ => rw [show z_ak 1 f = (9, 0) from z_getD_out _ _ _ hf] at h; exact absurd h (by decide)
  | 2, _ => rw [show z_ak 2 f = (9, 0) from z_getD_out _ _ _ hf] at h; exact absurd h (by decide)
  | 3, _ => rw [show z_ak 3 f = (9, 0) from z_getD_out _ _ _ hf] at h; exact absurd h (by decide)
  | 4, _ => rw [show z_ak 4 f = (9, 0) from z_getD_out _ _ _ hf] at h; exact absurd h (by decide)
  | 5, _ => rw [show z_ak 5 f = (9, 0) from z_getD_out _ _ _ hf] at h; exact absurd h (by decide)
theorem zs_getf (hx : p.tables.exec = Jvm.exec) (hb : c.code = cc) (hts : ∀ w ∈ zWS, w.before args s = true) (hown : s.vm.findClass own = some m.cls) (hK : va_K D zCL (zTL ca) s) (hE : zEv D ca ad A g0 s s.heap) {k o kf j : Nat} {q : vw_C} {v : zVV} (hq : zCL[k]? = some q) (ho : o < z_ni k) (hkf : kf < q.2.2)
    (hlink : Cond.fieldLink own j (q.2.1 kf).1 (q.2.1 kf).2.1 (q.2.1 kf).2.2.1 ∈ zWS) (hv : z_fval ad g k o kf = z_tV ad v) (hd : decode cc pc = .ok (.getfield j, 3)) (hk : zG p l e R s m args below meth c D ca ad A g0 nL (pc + 3) lc (v :: st) g b r) : zG p l e R s m args below meth c D ca ad A g0 nL pc lc (.inr (.inl (k, o, 0)) :: st) g b r := by
  intro H locs cells slots ls hP hS hl h1 h2 h5
  obtain ⟨C, T, N⟩ := q
  have hN : N = z_nf k := z_nfok hq
  refine va_get (D := D) (cl := zCL) (tys := zTL ca) (ci := k) (C := C) (T := T) (N := N) hx hb hts (z_inFw hq) hown hK (z_one (z_atO hP hE hS h5 hq ho)) 0 rfl hq kf hkf (hts _ hlink) (fun _ h => h) (v := z_tV ad v) ?_ hd (hk H locs cells slots ls hP hS hl h1 h2 h5)
  rw [List.getElem?_map, List.getElem?_range (by rw [← hN]; exact hkf)]
  show some (z_fval ad g k o kf) = _
  rw [hv]
theorem zs_putf (hx : p.tables.exec = Jvm.exec) (hb : c.code = cc) (hts : ∀ w ∈ zWS, w.before args s = true) (hown : s.vm.findClass own = some m.cls) (hK : va_K D zCL (zTL ca) s) {k o kf j : Nat} {q : vw_C} {v : zVV} {x : Int32} (hq : zCL[k]? = some q) (hk5 : k < 5) (ho : o < z_ni k) (hkf : kf < q.2.2)
    (hlink : Cond.fieldLink own j (q.2.1 kf).1 (q.2.1 kf).2.1 (q.2.1 kf).2.2.1 ∈ zWS) (hfin : (q.2.1 kf).2.2.2 = false) (hn : narrow (z_ty k kf) (z_tV ad v) = z_tV ad v) (hfit : fits (z_ty k kf) (z_tV ad v) = true) (hv : z_fval ad (z_gI g k o kf x) k o kf = z_tV ad v) (hd : decode cc pc = .ok (.putfield j, 3)) (hk : zG p l e R s m args below meth c D ca ad A g0 nL (pc + 3) lc st (z_gI g k o kf x) b r) : zG p l e R s m args below meth c D ca ad A g0 nL pc lc (v :: .inr (.inl (k, o, 0)) :: st) g b r := by
  intro H locs cells slots ls hP hS hl h1 h2 h5
  obtain ⟨C, T, N⟩ := q
  have hN : N = z_nf k := z_nfok hq
  obtain ⟨q0, e1, e2⟩ := z_wlget (ad := ad) (ca := ca) (g := g) (zWI_obj k hk5 o ho)
  refine va_put (D := D) (cl := zCL) (tys := zTL ca) (ci := k) (C := C) (T := T) (N := N) hx hb hts (z_inFw hq) (z_ty k) (z_tyok hq) (z_nmok hq) hown hK hP.1 hP.2 hS q0 e2 hq kf hkf (hts _ hlink) (fun _ h => h) hfin (z_tyok hq kf hkf) hn hfit (by simpa [hN] using hkf) hd (fun H1 locs1 hP1 hD1 hS1 => ?_)
  have hset : (z_wl ad ca g).set q0 (z_aq ad (k, o, 0), .inr (k, ((List.range (z_nf k)).map (z_fval ad g k o)).set kf (z_tV ad v))) = z_wl ad ca (z_gI g k o kf x) := by
    refine z_wlset e1 ?_ (fun q' hq' => z_cell_gI hk5 hq')
    rw [z_cell_0, ← hv]
    congr 2
    refine z_rangeset (by rw [← hN]; exact hkf) (fun j hj => z_fval_cong ?_)
    rw [z_gI_at, if_pos ⟨rfl, rfl⟩]
    show upd (g k o).1 kf x j = _
    exact pk_un hj
  rw [hset] at hP1 hD1
  exact hk H1 locs1 cells slots ls ⟨hP1, hD1⟩ hS1 hl h1 h2 (by rw [z_gI_5 hk5]; exact h5)
theorem z_cell_int {k o f : Nat} (h : (z_ak k f).1 = 0) : z_cell ad ca g (k, o, f + 1) = .inl (ca 0, z_alen g k o f, .inl ((g k o).2 f)) := by
  unfold z_cell
  dsimp only
  rw [h]
  rfl
theorem z_cell_bool {k o f : Nat} (h : (z_ak k f).1 = 1) : z_cell ad ca g (k, o, f + 1) = .inl (ca 1, z_alen g k o f, .inl ((g k o).2 f)) := by
  unfold z_cell
  dsimp only
  rw [h]
  rfl
theorem zs_iald (hx : p.tables.exec = Jvm.exec) (hb : c.code = cc) (hK : va_K D zCL (zTL ca) s) (hE : zEv D ca ad A g0 s s.heap) {k o f : Nat} {x : Int32} (hk6 : k < 6) (ho : o < z_ni k) (ht : (z_ak k f).1 = 0) (hin : z_inb x (z_alen g k o f)) (hd : decode cc pc = .ok (.iaload, 1)) (hk : zG p l e R s m args below meth c D ca ad A g0 nL (pc + 1) lc (.inl ((g k o).2 f x.toNatClampNeg) :: st) g b r) : zG p l e R s m args below meth c D ca ad A g0 nL pc lc (.inl x :: .inr (.inl (k, o, f + 1)) :: st) g b r := by
  intro H locs cells slots ls hP hS hl h1 h2 h5
  have hat := z_atA hP hE hS h5 hk6 ho (z_ak_lt hk6 (by rw [ht]; decide)) (by rw [ht]; decide)
  rw [z_cell_int ht] at hat
  exact va_iald hx hb hK (z_one hat) 0 0 rfl rfl (z_inb_iff.mp hin) hd (hk H locs cells slots ls hP hS hl h1 h2 h5)
theorem zs_zald (hx : p.tables.exec = Jvm.exec) (hb : c.code = cc) (hK : va_K D zCL (zTL ca) s) (hE : zEv D ca ad A g0 s s.heap) {k o f : Nat} {x : Int32} (hk6 : k < 6) (ho : o < z_ni k) (ht : (z_ak k f).1 = 1) (hin : z_inb x (z_alen g k o f)) (hd : decode cc pc = .ok (.baload, 1)) (hk : zG p l e R s m args below meth c D ca ad A g0 nL (pc + 1) lc (.inl ((g k o).2 f x.toNatClampNeg) :: st) g b r) : zG p l e R s m args below meth c D ca ad A g0 nL pc lc (.inl x :: .inr (.inl (k, o, f + 1)) :: st) g b r := by
  intro H locs cells slots ls hP hS hl h1 h2 h5
  have hat := z_atA hP hE hS h5 hk6 ho (z_ak_lt hk6 (by rw [ht]; decide)) (by rw [ht]; decide)
  rw [z_cell_bool ht] at hat
  exact va_zald hx hb hK (z_one hat) 0 1 rfl rfl (z_inb_iff.mp hin) hd (hk H locs cells slots ls hP hS hl h1 h2 h5)
theorem z_gA_self (g : zSG) (k o f : Nat) (h : Nat → Int32) : (z_gA g k o f h k o).2 f = h := by
  rw [z_gA_at, if_pos ⟨rfl, rfl⟩]
  exact va_up_self _ _ _
theorem zs_iast (hx : p.tables.exec = Jvm.exec) (hb : c.code = cc) (hK : va_K D zCL (zTL ca) s) {k o f : Nat} {x v : Int32} (hk5 : k < 5) (ho : o < z_ni k) (ht : (z_ak k f).1 = 0) (hin : z_inb x (z_alen g k o f)) (hd : decode cc pc = .ok (.iastore, 1)) (hk : zG p l e R s m args below meth c D ca ad A g0 nL (pc + 1) lc st (z_gA g k o f (upd ((g k o).2 f) x.toNatClampNeg v)) b r) : zG p l e R s m args below meth c D ca ad A g0 nL pc lc (.inl v :: .inl x :: .inr (.inl (k, o, f + 1)) :: st) g b r := by
  intro H locs cells slots ls hP hS hl h1 h2 h5
  obtain ⟨q0, e1, e2⟩ := z_wlget (ad := ad) (ca := ca) (g := g) (zWI_arr k hk5 o ho f (z_ak_lt (by omega) (by rw [ht]; decide)) (by rw [ht]; decide))
  rw [z_cell_int ht] at e2
  refine va_iast hx hb hK hP.1 hP.2 hS q0 0 e2 rfl (z_inb_iff.mp hin) hd (fun H1 locs1 hP1 hD1 hS1 => ?_)
  have hset : (z_wl ad ca g).set q0 (z_aq ad (k, o, f + 1), .inl (ca 0, z_alen g k o f, .inl (upd ((g k o).2 f) x.toNatClampNeg v))) = z_wl ad ca (z_gA g k o f (upd ((g k o).2 f) x.toNatClampNeg v)) := by
    refine z_wlset e1 ?_ (fun q' hq' => z_cell_gA hk5 hq')
    rw [z_cell_int ht, z_alen_eq (z_gA_5 hk5), z_gA_self]
  rw [hset] at hP1 hD1
  exact hk H1 locs1 cells slots ls ⟨hP1, hD1⟩ hS1 hl h1 h2 (by rw [z_gA_5 hk5]; exact h5)
theorem z_nar_bool (x : Int32) : vp_nar .boolean x = x &&& 1 := by
  unfold vp_nar
  first | rfl | simp [narrow]
theorem zs_zast (hx : p.tables.exec = Jvm.exec) (hb : c.code = cc) (hK : va_K D zCL (zTL ca) s) {k o f : Nat} {x v : Int32} (hk5 : k < 5) (ho : o < z_ni k) (ht : (z_ak k f).1 = 1) (hin : z_inb x (z_alen g k o f)) (hd : decode cc pc = .ok (.bastore, 1)) (hk : zG p l e R s m args below meth c D ca ad A g0 nL (pc + 1) lc st (z_gA g k o f (upd ((g k o).2 f) x.toNatClampNeg (v &&& 1))) b r) : zG p l e R s m args below meth c D ca ad A g0 nL pc lc (.inl v :: .inl x :: .inr (.inl (k, o, f + 1)) :: st) g b r := by
  intro H locs cells slots ls hP hS hl h1 h2 h5
  obtain ⟨q0, e1, e2⟩ := z_wlget (ad := ad) (ca := ca) (g := g) (zWI_arr k hk5 o ho f (z_ak_lt (by omega) (by rw [ht]; decide)) (by rw [ht]; decide))
  rw [z_cell_bool ht] at e2
  refine va_zast hx hb hK hP.1 hP.2 hS q0 1 e2 rfl (z_inb_iff.mp hin) hd (fun H1 locs1 hP1 hD1 hS1 => ?_)
  rw [z_nar_bool] at hP1 hD1
  have hset : (z_wl ad ca g).set q0 (z_aq ad (k, o, f + 1), .inl (ca 1, z_alen g k o f, .inl (upd ((g k o).2 f) x.toNatClampNeg (v &&& 1)))) = z_wl ad ca (z_gA g k o f (upd ((g k o).2 f) x.toNatClampNeg (v &&& 1))) := by
    refine z_wlset e1 ?_ (fun q' hq' => z_cell_gA hk5 hq')
    rw [z_cell_bool ht, z_alen_eq (z_gA_5 hk5), z_gA_self]
  rw [hset] at hP1 hD1
  exact hk H1 locs1 cells slots ls ⟨hP1, hD1⟩ hS1 hl h1 h2 (by rw [z_gA_5 hk5]; exact h5)
theorem zs_alen (hx : p.tables.exec = Jvm.exec) (hb : c.code = cc) (hK : va_K D zCL (zTL ca) s) (hE : zEv D ca ad A g0 s s.heap) {k o f : Nat} (hk6 : k < 6) (ho : o < z_ni k) (ht : (z_ak k f).1 < 2) (hd : decode cc pc = .ok (.arraylength, 1)) (hk : zG p l e R s m args below meth c D ca ad A g0 nL (pc + 1) lc (.inl (Int32.ofNat (z_alen g k o f)) :: st) g b r) : zG p l e R s m args below meth c D ca ad A g0 nL pc lc (.inr (.inl (k, o, f + 1)) :: st) g b r := by
  intro H locs cells slots ls hP hS hl h1 h2 h5
  have hat := z_atA (f := f) hP hE hS h5 hk6 ho (z_ak_lt hk6 (by omega)) (by omega)
  rcases (show (z_ak k f).1 = 0 ∨ (z_ak k f).1 = 1 by omega) with ht | ht
  · rw [z_cell_int ht] at hat
    exact va_alen hx hb hK (z_one hat) 0 0 rfl rfl rfl hd (hk H locs cells slots ls hP hS hl h1 h2 h5)
  · rw [z_cell_bool ht] at hat
    exact va_alen hx hb hK (z_one hat) 0 1 rfl rfl rfl hd (hk H locs cells slots ls hP hS hl h1 h2 h5)
theorem zs_alen5 (hx : p.tables.exec = Jvm.exec) (hb : c.code = cc) (hK : va_K D zCL (zTL ca) s) (hd : decode cc pc = .ok (.arraylength, 1)) (hk : zG p l e R s m args below meth c D ca ad A g0 nL (pc + 1) lc (.inl (8 : Int32) :: st) g b r) : zG p l e R s m args below meth c D ca ad A g0 nL pc lc (.inr (.inl (0, 0, 5)) :: st) g b r := by
  intro H locs cells slots ls hP hS hl h1 h2 h5
  have hat := z_atW hP (zWI_arr 0 (by decide) 0 (by decide) 4 (by decide) (by decide))
  exact va_alen hx hb hK (z_one hat) 0 3 rfl rfl rfl hd (hk H locs cells slots ls hP hS hl h1 h2 h5)
/-- a row of references: scripts, the runs with all, the trial runs -/
def z_rfs (f : Nat) (x : Int32) : Nat × Nat × Nat := match f with
  | 4 => (5, x.toNatClampNeg, 0)
  | 7 => (4, x.toNatClampNeg, 0)
  | _ => (4, 2 + x.toNatClampNeg, 0)
def z_rfn (f : Nat) : Nat := match f with
  | 4 => 8
  | _ => 2
theorem zs_aald (hx : p.tables.exec = Jvm.exec) (hb : c.code = cc) (hK : va_K D zCL (zTL ca) s) {f : Nat} (hf : f = 4 ∨ f = 7 ∨ f = 8) {x : Int32} (hin : z_inb x (z_rfn f)) (hd : decode cc pc = .ok (.aaload, 1)) (hk : zG p l e R s m args below meth c D ca ad A g0 nL (pc + 1) lc (.inr (.inl (z_rfs f x)) :: st) g b r) : zG p l e R s m args below meth c D ca ad A g0 nL pc lc (.inl x :: .inr (.inl (0, 0, f + 1)) :: st) g b r := by
  intro H locs cells slots ls hP hS hl h1 h2 h5
  rcases hf with rfl | rfl | rfl
  · have hat := z_atW hP (zWI_arr 0 (by decide) 0 (by decide) 4 (by decide) (by decide))
    exact va_aldq hx hb hK (z_one hat) 0 3 rfl rfl (z_inb_iff.mp hin) hd (hk H locs cells slots ls hP hS hl h1 h2 h5)
  · have hat := z_atW hP (zWI_arr 0 (by decide) 0 (by decide) 7 (by decide) (by decide))
    have e : va_rf ((fun j => some (ad 4 ((bif Nat.beq 7 7 then 0 else 2) + j) 0)) x.toNatClampNeg) = z_tV ad (.inr (.inl (z_rfs 7 x))) := by
      show Value.ref (ad 4 (0 + x.toNatClampNeg) 0) = Value.ref (ad 4 x.toNatClampNeg 0)
      rw [Nat.zero_add]
    refine va_aldq hx hb hK (z_one hat) 0 2 rfl rfl (z_inb_iff.mp hin) hd ?_
    rw [e]
    exact hk H locs cells slots ls hP hS hl h1 h2 h5
  · have hat := z_atW hP (zWI_arr 0 (by decide) 0 (by decide) 8 (by decide) (by decide))
    exact va_aldq hx hb hK (z_one hat) 0 2 rfl rfl (z_inb_iff.mp hin) hd (hk H locs cells slots ls hP hS hl h1 h2 h5)
end Rows2
