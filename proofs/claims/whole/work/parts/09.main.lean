/-! ===== soundness of the pure machine, whole ===== -/
theorem z_ok1 {cc : ByteArray} {pc nx tg n : Nat} {i : Instr} (h : z_okb cc pc i nx tg = true) (hl : z_len i = some n) : decode cc pc = .ok (i, n) ∧ nx = pc + n := by
  unfold z_okb at h
  rw [hl] at h
  simp only [Bool.and_eq_true, decide_eq_true_eq] at h
  obtain ⟨⟨h1, h2⟩, -⟩ := h
  subst h2
  rw [Nat.add_sub_cancel_left] at h1
  exact ⟨h1, rfl⟩
theorem z_ok2 {cc : ByteArray} {pc nx tg : Nat} {o : Int} {i : Instr} (h : z_okb cc pc i nx tg = true) (hl : z_off i = some o) : (pc : Int) + o = (tg : Int) := by
  unfold z_okb at h
  rw [hl] at h
  simp only [Bool.and_eq_true, decide_eq_true_eq] at h
  exact h.2
theorem z_ok0 {cc : ByteArray} {pc nx tg : Nat} {i : Instr} (h : z_okb cc pc i nx tg = true) : decode cc pc = .ok (i, nx - pc) := by
  unfold z_okb at h
  simp only [Bool.and_eq_true, decide_eq_true_eq] at h
  exact h.1.1
theorem z_cnd {α : Type} {q : Bool} {x : Option α} {y : α} (h : (bif q then x else none) = some y) : q = true ∧ x = some y := by
  cases q with
  | true => exact ⟨rfl, h⟩
  | false => cases h
theorem z_cnd0 {α : Type} {q : Bool} {x : Option α} {y : α} (h : (bif q then none else x) = some y) : q = false ∧ x = some y := by
  cases q with
  | false => exact ⟨rfl, h⟩
  | true => cases h
theorem z_ift {α : Type} {q : Prop} [Decidable q] {x : Option α} {y : α} (h : (if q then x else none) = some y) : q ∧ x = some y := by
  by_cases hq : q
  · rw [if_pos hq] at h; exact ⟨hq, h⟩
  · rw [if_neg hq] at h; cases h
theorem z_iff0 {α : Type} {q : Prop} [Decidable q] {x : Option α} {y : α} (h : (if q then none else x) = some y) : ¬ q ∧ x = some y := by
  by_cases hq : q
  · rw [if_pos hq] at h; cases h
  · rw [if_neg hq] at h; exact ⟨hq, h⟩
section Main
variable {p : Program} {l : Launch} {e : Env} {R : Room} {s : State} {m : MethodId} {args : Array Value} {below : List Frame} {meth : Method} {c : Code} {D : va_G} {ca : Nat → ClassId} {ad : zAD} {A : Nat → Prop} {g0 : zSG} {nL pc : Nat} {lc : zLC} {st : List zVV} {g : zSG} {b : Nat × Nat} {r : zRR} {cc : ByteArray} {own : String}
/-- a throw at this place -/
def zThrH (p : Program) (l : Launch) (e : Env) (R : Room) (s : State) (m : MethodId) (args : Array Value) (below : List Frame) (meth : Method) (c : Code) (D : va_G) (ca : Nat → ClassId) (ad : zAD) (A : Nat → Prop) (g0 : zSG) (nL : Nat) (pc x : Nat) : Prop :=
  ∀ (lc : zLC) (st : List zVV) (g : zSG) (b : Nat × Nat), 1 ≤ b.1 → 6 ≤ b.2 → z_wt st ≤ 8 → zG p l e R s m args below meth c D ca ad A g0 nL pc lc st g b (.inr x, g)
/-- a call at this place -/
def zCalH (p : Program) (l : Launch) (e : Env) (R : Room) (s : State) (m : MethodId) (args : Array Value) (below : List Frame) (meth : Method) (c : Code) (D : va_G) (ca : Nat → ClassId) (ad : zAD) (A : Nat → Prop) (g0 : zSG) (nL : Nat) (pc nx : Nat) (ci : zCI) : Prop :=
  ∀ (lc : zLC) (st : List zVV) (g : zSG) (b : Nat × Nat) (r' r : zRR), ci.2.1 ≤ st.length → ci.2.2.2.1 ≤ b.1 → ci.2.2.2.2 ≤ b.2 → z_wt (st.drop ci.2.1) ≤ 8 → ci.1 (st.take ci.2.1).reverse g = some r' →
    (∀ v, r'.1 = .inl v → zG p l e R s m args below meth c D ca ad A g0 nL nx lc (v.toList ++ st.drop ci.2.1) r'.2 (b.1 - ci.2.2.2.1, b.2 - ci.2.2.2.2) r) → (∀ x, r'.1 = .inr x → r = (.inr x, r'.2)) → zG p l e R s m args below meth c D ca ad A g0 nL pc lc st g b r
theorem z_call {nx : Nat} {ci : zCI} {k : zKK} (hc : zCalH p l e R s m args below meth c D ca ad A g0 nL pc nx ci) (hk : ∀ pc' lc' st' g' b' r', k pc' lc' st' g' b' = some r' → zG p l e R s m args below meth c D ca ad A g0 nL pc' lc' st' g' b' r') (h : z_cll k ci nx lc st g b = some r) : zG p l e R s m args below meth c D ca ad A g0 nL pc lc st g b r := by
  unfold z_cll at h
  obtain ⟨h0, h⟩ := z_cnd h
  simp only [Bool.and_eq_true, Nat.ble_eq] at h0
  obtain ⟨⟨⟨a1, a2⟩, a3⟩, a4⟩ := h0
  have key : ∀ o, ci.1 (st.take ci.2.1).reverse g = o → o = ci.1 (st.take ci.2.1).reverse g := fun o h => h.symm
  split at h
  · unfold z_bV at h
    split at h
    · rename_i q
      exact hc lc st g b _ r a1 a2 a3 a4 q (fun v hv => by cases hv; exact hk _ _ _ _ _ _ h) (fun x hx => by cases hx)
    · rename_i q
      cases h
      exact hc lc st g b _ _ a1 a2 a3 a4 q (fun v hv => by cases hv) (fun x hx => by cases hx; rfl)
    · cases h
  · unfold z_bI at h
    split at h
    · rename_i q
      exact hc lc st g b _ r a1 a2 a3 a4 q (fun v hv => by cases hv; exact hk _ _ _ _ _ _ h) (fun x hx => by cases hx)
    · rename_i q
      cases h
      exact hc lc st g b _ _ a1 a2 a3 a4 q (fun v hv => by cases hv) (fun x hx => by cases hx; rfl)
    · cases h
  · unfold z_bL at h
    split at h
    · rename_i q
      exact hc lc st g b _ r a1 a2 a3 a4 q (fun v hv => by cases hv; exact hk _ _ _ _ _ _ h) (fun x hx => by cases hx)
    · rename_i q
      cases h
      exact hc lc st g b _ _ a1 a2 a3 a4 q (fun v hv => by cases hv) (fun x hx => by cases hx; rfl)
    · cases h
theorem z_getc (hx : p.tables.exec = Jvm.exec) (hb : c.code = cc) (hts : ∀ w ∈ zWS, w.before args s = true) (hown : s.vm.findClass own = some m.cls) (hK : va_K D zCL (zTL ca) s) (hE : zEv D ca ad A g0 s s.heap) {j k0 o kf : Nat} {kk : zVV → Option zRR} (hfl : z_flb own j k0 kf = true) (ho : o < z_ni k0) (hd : decode cc pc = .ok (.getfield j, 3))
    (hk : ∀ v, kk v = some r → zG p l e R s m args below meth c D ca ad A g0 nL (pc + 3) lc (v :: st) g b r) (h : z_getF g k0 o kf kk = some r) : zG p l e R s m args below meth c D ca ad A g0 nL pc lc (.inr (.inl (k0, o, 0)) :: st) g b r := by
  obtain ⟨q, hq, hkf, hlink⟩ := z_flb_at hfl
  unfold z_getF at h
  split at h
  · rename_i hfk
    exact zs_getf hx hb hts hown hK hE hq ho hkf hlink (by unfold z_fval; rw [hfk]; rfl) hd (hk _ h)
  · rename_i hfk
    exact zs_getf hx hb hts hown hK hE hq ho hkf hlink (by unfold z_fval; rw [hfk]; rfl) hd (hk _ h)
  · rename_i hfk
    exact zs_getf hx hb hts hown hK hE hq ho hkf hlink (by unfold z_fval; rw [hfk]; rfl) hd (hk _ h)
  · rename_i hfk
    obtain ⟨hg, h⟩ := z_ift h
    exact zs_getf hx hb hts hown hK hE hq ho hkf hlink (v := .inr (.inl (0, 0, 1))) (by unfold z_fval; rw [hfk]; show Value.ref (if (g k0 o).1 kf = 1 then ad 0 0 1 else ad 9 0 0) = _; rw [if_pos hg]; rfl) hd (hk _ h)
  · cases h
theorem z_putc (hx : p.tables.exec = Jvm.exec) (hb : c.code = cc) (hts : ∀ w ∈ zWS, w.before args s = true) (hown : s.vm.findClass own = some m.cls) (hK : va_K D zCL (zTL ca) s) {j k0 o kf : Nat} {v : zVV} {kk : zSG → Option zRR} (hfl : z_flb own j k0 kf = true) (h5k : k0 < 5) (ho : o < z_ni k0) (hd : decode cc pc = .ok (.putfield j, 3))
    (hk : ∀ g', kk g' = some r → zG p l e R s m args below meth c D ca ad A g0 nL (pc + 3) lc st g' b r) (h : z_putF g k0 o kf v kk = some r) : zG p l e R s m args below meth c D ca ad A g0 nL pc lc (v :: .inr (.inl (k0, o, 0)) :: st) g b r := by
  obtain ⟨q, hq, hkf, hlink⟩ := z_flb_at hfl
  have hty := z_fk_ok h5k hq hkf
  unfold z_putF at h
  split at h
  · rename_i hfk
    rw [hfk] at hty
    split at h
    · rename_i x
      exact zs_putf hx hb hts hown hK hq h5k ho hkf hlink hty.2 (by rw [hty.1]; rfl) (by rw [hty.1]; rfl) (by unfold z_fval; rw [hfk]; show Value.int ((z_gI g k0 o kf x k0 o).1 kf) = Value.int x; rw [z_gI_at, if_pos ⟨rfl, rfl⟩]; exact congrArg Value.int pk_us) hd (hk _ h)
    · cases h
  · rename_i n hne hfk
    rw [hfk] at hty
    split at h
    · rename_i x
      obtain ⟨h01, h⟩ := z_ift h
      have hty2 : z_ty k0 kf = .boolean ∧ (q.2.1 kf).2.2.2 = false := by
        cases n with
        | zero => exact absurd rfl hne
        | succ n => exact hty
      exact zs_putf hx hb hts hown hK hq h5k ho hkf hlink hty2.2 (by rw [hty2.1]; rcases h01 with rfl | rfl <;> rfl) (by rw [hty2.1]; rcases h01 with rfl | rfl <;> rfl) (by unfold z_fval; rw [hfk]; show Value.int ((z_gI g k0 o kf x k0 o).1 kf) = Value.int x; rw [z_gI_at, if_pos ⟨rfl, rfl⟩]; exact congrArg Value.int pk_us) hd (hk _ h)
    · cases h
  · rename_i hfk
    rw [hfk] at hty
    split at h
    · exact zs_putf hx hb hts hown hK hq h5k ho hkf hlink hty.2 (by rw [hty.1]; rfl) (by rw [hty.1]; rfl) (by unfold z_fval; rw [hfk]; show Value.ref (if (z_gI g k0 o kf 1 k0 o).1 kf = 1 then ad 0 0 1 else ad 9 0 0) = _; rw [if_pos (by rw [z_gI_at, if_pos ⟨rfl, rfl⟩]; exact pk_us)]; rfl) hd (hk _ h)
    · cases h
  · cases h
/-- the return's kind -/
def z_rt (n : Nat) (ret : Option FieldType) : Prop := match n with
  | 0 => ret = none
  | 1 => ret = some .int
  | 2 => ret = some .boolean
  | _ => ret = some .long
set_option maxHeartbeats 4000000 in
theorem z_step (hx : p.tables.exec = Jvm.exec) (hb : c.code = cc) (hts : ∀ w ∈ zWS, w.before args s = true) (hown : s.vm.findClass own = some m.cls) (hK : va_K D zCL (zTL ca) s) (hE : zEv D ca ad A g0 s s.heap) (hlocks : meth.locks = false) {M : zMI} {k : zKK} {i : Instr} {nx tg : Nat} (hnL : M.2.2.2.2.1 = nL) (hrt : z_rt M.2.2.2.2.2 meth.sig.returnType)
    (hfl : ∀ j c kf, M.1 j = some (c, kf) → z_flb own j c kf = true) (hcs : ∀ j v, M.2.2.1 j = some v → z_csb own j v = true)
    (hok : z_okb cc pc i nx tg = true) (hthr : ∀ j x, i = .new j → M.2.2.2.1 j = some x → zThrH p l e R s m args below meth c D ca ad A g0 nL pc x) (hcal : ∀ j ci, (i = .invokevirtual j ∨ i = .invokestatic j) → M.2.1 j = some ci → zCalH p l e R s m args below meth c D ca ad A g0 nL pc nx ci)
    (hk : ∀ pc' lc' st' g' b' r', k pc' lc' st' g' b' = some r' → zG p l e R s m args below meth c D ca ad A g0 nL pc' lc' st' g' b' r') (h : z_stp M k i nx tg pc lc st g b = some r) : zG p l e R s m args below meth c D ca ad A g0 nL pc lc st g b r := by
  subst hnL
  cases i with
  | iconst n =>
    obtain ⟨hd, rfl⟩ := z_ok1 hok rfl
    simp only [z_stp] at h
    exact zs_iconst hx hb hd (hk _ _ _ _ _ _ h)
  | bipush n =>
    obtain ⟨hd, rfl⟩ := z_ok1 hok rfl
    simp only [z_stp] at h
    exact zs_bipush hx hb hd (hk _ _ _ _ _ _ h)
  | sipush n =>
    obtain ⟨hd, rfl⟩ := z_ok1 hok rfl
    simp only [z_stp] at h
    exact zs_sipush hx hb hd (hk _ _ _ _ _ _ h)
  | lconst n =>
    obtain ⟨hd, rfl⟩ := z_ok1 hok rfl
    simp only [z_stp] at h
    exact zs_lconst hx hb hd (hk _ _ _ _ _ _ h)
  | ldc j =>
    obtain ⟨hd, rfl⟩ := z_ok1 hok rfl
    simp only [z_stp] at h
    cases hv : M.2.2.1 j with
    | none => rw [hv] at h; cases h
    | some v =>
      rw [hv] at h
      obtain ⟨h0, h⟩ := z_cnd0 h
      exact zs_ldc hx hb hts hown hE (hcs j v hv) h0 hd (hk _ _ _ _ _ _ h)
  | ldc_w j =>
    obtain ⟨hd, rfl⟩ := z_ok1 hok rfl
    simp only [z_stp] at h
    cases hv : M.2.2.1 j with
    | none => rw [hv] at h; cases h
    | some v =>
      rw [hv] at h
      rcases v with x | q | x
      · exact zs_ldcw hx hb hts hown (hcs j _ hv) hd (hk _ _ _ _ _ _ h)
      · cases h
      · cases h
  | ldc2_w j =>
    obtain ⟨hd, rfl⟩ := z_ok1 hok rfl
    simp only [z_stp] at h
    cases hv : M.2.2.1 j with
    | none => rw [hv] at h; cases h
    | some v =>
      rw [hv] at h
      rcases v with x | q | x
      · cases h
      · cases h
      · exact zs_ldc2 hx hb hts hown (hcs j _ hv) hd (hk _ _ _ _ _ _ h)
  | iload_n j =>
    obtain ⟨hd, rfl⟩ := z_ok1 hok rfl
    simp only [z_stp] at h
    split at h
    · rename_i x hv
      exact zs_iload_n hx hb hv hd (hk _ _ _ _ _ _ h)
    · cases h
  | iload j =>
    obtain ⟨hd, rfl⟩ := z_ok1 hok rfl
    simp only [z_stp] at h
    split at h
    · rename_i x hv
      exact zs_iload hx hb hv hd (hk _ _ _ _ _ _ h)
    · cases h
  | aload_n j =>
    obtain ⟨hd, rfl⟩ := z_ok1 hok rfl
    simp only [z_stp] at h
    split at h
    · rename_i x hv
      exact zs_aload_n hx hb hv hd (hk _ _ _ _ _ _ h)
    · cases h
  | aload j =>
    obtain ⟨hd, rfl⟩ := z_ok1 hok rfl
    simp only [z_stp] at h
    split at h
    · rename_i x hv
      exact zs_aload hx hb hv hd (hk _ _ _ _ _ _ h)
    · cases h
  | lload_n j =>
    obtain ⟨hd, rfl⟩ := z_ok1 hok rfl
    simp only [z_stp] at h
    split at h
    · rename_i x hv
      exact zs_lload_n hx hb hv hd (hk _ _ _ _ _ _ h)
    · cases h
  | istore_n j =>
    obtain ⟨hd, rfl⟩ := z_ok1 hok rfl
    simp only [z_stp] at h
    split at h
    · obtain ⟨h0, h⟩ := z_cnd h
      exact zs_istore_n hx hb (Nat.blt_eq.mp h0) hd (hk _ _ _ _ _ _ h)
    · cases h
  | istore j =>
    obtain ⟨hd, rfl⟩ := z_ok1 hok rfl
    simp only [z_stp] at h
    split at h
    · obtain ⟨h0, h⟩ := z_cnd h
      exact zs_istore hx hb (Nat.blt_eq.mp h0) hd (hk _ _ _ _ _ _ h)
    · cases h
  | astore_n j =>
    obtain ⟨hd, rfl⟩ := z_ok1 hok rfl
    simp only [z_stp] at h
    split at h
    · obtain ⟨h0, h⟩ := z_cnd h
      exact zs_astore_n hx hb (Nat.blt_eq.mp h0) hd (hk _ _ _ _ _ _ h)
    · cases h
  | astore j =>
    obtain ⟨hd, rfl⟩ := z_ok1 hok rfl
    simp only [z_stp] at h
    split at h
    · obtain ⟨h0, h⟩ := z_cnd h
      exact zs_astore hx hb (Nat.blt_eq.mp h0) hd (hk _ _ _ _ _ _ h)
    · cases h
  | lstore_n j =>
    obtain ⟨hd, rfl⟩ := z_ok1 hok rfl
    simp only [z_stp] at h
    split at h
    · obtain ⟨h0, h⟩ := z_cnd h
      exact zs_lstore_n hx hb (Nat.blt_eq.mp h0) hd (hk _ _ _ _ _ _ h)
    · cases h
  | iinc j n =>
    obtain ⟨hd, rfl⟩ := z_ok1 hok rfl
    simp only [z_stp] at h
    split at h
    · rename_i x hv
      obtain ⟨h0, h⟩ := z_cnd h
      exact zs_iinc hx hb hv (Nat.blt_eq.mp h0) hd (hk _ _ _ _ _ _ h)
    · cases h
  | iadd =>
    obtain ⟨hd, rfl⟩ := z_ok1 hok rfl
    simp only [z_stp] at h
    split at h
    · exact zs_iadd hx hb hd (hk _ _ _ _ _ _ h)
    · cases h
  | isub =>
    obtain ⟨hd, rfl⟩ := z_ok1 hok rfl
    simp only [z_stp] at h
    split at h
    · exact zs_isub hx hb hd (hk _ _ _ _ _ _ h)
    · cases h
  | imul =>
    obtain ⟨hd, rfl⟩ := z_ok1 hok rfl
    simp only [z_stp] at h
    split at h
    · exact zs_imul hx hb hd (hk _ _ _ _ _ _ h)
    · cases h
  | iand =>
    obtain ⟨hd, rfl⟩ := z_ok1 hok rfl
    simp only [z_stp] at h
    split at h
    · exact zs_iand hx hb hd (hk _ _ _ _ _ _ h)
    · cases h
  | ior =>
    obtain ⟨hd, rfl⟩ := z_ok1 hok rfl
    simp only [z_stp] at h
    split at h
    · exact zs_ior hx hb hd (hk _ _ _ _ _ _ h)
    · cases h
  | ishl =>
    obtain ⟨hd, rfl⟩ := z_ok1 hok rfl
    simp only [z_stp] at h
    split at h
    · exact zs_ishl hx hb hd (hk _ _ _ _ _ _ h)
    · cases h
  | ishr =>
    obtain ⟨hd, rfl⟩ := z_ok1 hok rfl
    simp only [z_stp] at h
    split at h
    · exact zs_ishr hx hb hd (hk _ _ _ _ _ _ h)
    · cases h
  | iushr =>
    obtain ⟨hd, rfl⟩ := z_ok1 hok rfl
    simp only [z_stp] at h
    split at h
    · exact zs_iushr hx hb hd (hk _ _ _ _ _ _ h)
    · cases h
  | i2l =>
    obtain ⟨hd, rfl⟩ := z_ok1 hok rfl
    simp only [z_stp] at h
    split at h
    · exact zs_i2l hx hb hd (hk _ _ _ _ _ _ h)
    · cases h
  | lor =>
    obtain ⟨hd, rfl⟩ := z_ok1 hok rfl
    simp only [z_stp] at h
    split at h
    · exact zs_lor hx hb hd (hk _ _ _ _ _ _ h)
    · cases h
  | lshl =>
    obtain ⟨hd, rfl⟩ := z_ok1 hok rfl
    simp only [z_stp] at h
    split at h
    · exact zs_lshl hx hb hd (hk _ _ _ _ _ _ h)
    · cases h
  | lcmp =>
    obtain ⟨hd, rfl⟩ := z_ok1 hok rfl
    simp only [z_stp] at h
    split at h
    · exact zs_lcmp hx hb hd (hk _ _ _ _ _ _ h)
    · cases h
  | idiv =>
    obtain ⟨hd, rfl⟩ := z_ok1 hok rfl
    simp only [z_stp] at h
    split at h
    · obtain ⟨h0, h⟩ := z_iff0 h
      exact zs_idiv hx hb h0 hd (hk _ _ _ _ _ _ h)
    · cases h
  | irem =>
    obtain ⟨hd, rfl⟩ := z_ok1 hok rfl
    simp only [z_stp] at h
    split at h
    · obtain ⟨h0, h⟩ := z_iff0 h
      exact zs_irem hx hb h0 hd (hk _ _ _ _ _ _ h)
    · cases h
  | dup =>
    obtain ⟨hd, rfl⟩ := z_ok1 hok rfl
    simp only [z_stp] at h
    split at h
    · obtain ⟨h0, h⟩ := z_cnd0 h
      exact zs_dup hx hb h0 hd (hk _ _ _ _ _ _ h)
    · cases h
  | pop =>
    obtain ⟨hd, rfl⟩ := z_ok1 hok rfl
    simp only [z_stp] at h
    split at h
    · obtain ⟨h0, h⟩ := z_cnd0 h
      exact zs_pop hx hb h0 hd (hk _ _ _ _ _ _ h)
    · cases h
  | dup2 =>
    obtain ⟨hd, rfl⟩ := z_ok1 hok rfl
    simp only [z_stp] at h
    split at h
    · obtain ⟨h0, h⟩ := z_cnd0 h
      simp only [Bool.or_eq_false_iff] at h0
      exact zs_dup2 hx hb h0.1 h0.2 hd (hk _ _ _ _ _ _ h)
    · cases h
  | goto o =>
    obtain ⟨hd, rfl⟩ := z_ok1 hok rfl
    simp only [z_stp] at h
    exact zs_goto hx hb (z_ok2 hok rfl) hd (hk _ _ _ _ _ _ h)
  | ifCond cd o =>
    obtain ⟨hd, rfl⟩ := z_ok1 hok rfl
    simp only [z_stp] at h
    split at h
    · cases cd with
      | eq =>
        dsimp only at h
        refine zs_if_eq hx hb (z_ok2 hok rfl) hd (fun q => ?_) (fun q => ?_)
        · rw [if_pos q] at h; exact hk _ _ _ _ _ _ h
        · rw [if_neg q] at h; exact hk _ _ _ _ _ _ h
      | ne =>
        dsimp only at h
        refine zs_if_ne hx hb (z_ok2 hok rfl) hd (fun q => ?_) (fun q => ?_)
        · rw [if_neg q] at h; exact hk _ _ _ _ _ _ h
        · rw [if_pos q] at h; exact hk _ _ _ _ _ _ h
      | lt =>
        dsimp only at h
        refine zs_if_lt hx hb (z_ok2 hok rfl) hd (fun q => ?_) (fun q => ?_)
        · rw [if_pos q] at h; exact hk _ _ _ _ _ _ h
        · rw [if_neg q] at h; exact hk _ _ _ _ _ _ h
      | ge =>
        dsimp only at h
        refine zs_if_ge hx hb (z_ok2 hok rfl) hd (fun q => ?_) (fun q => ?_)
        · rw [if_pos q] at h; exact hk _ _ _ _ _ _ h
        · rw [if_neg q] at h; exact hk _ _ _ _ _ _ h
      | gt =>
        dsimp only at h
        refine zs_if_gt hx hb (z_ok2 hok rfl) hd (fun q => ?_) (fun q => ?_)
        · rw [if_pos q] at h; exact hk _ _ _ _ _ _ h
        · rw [if_neg q] at h; exact hk _ _ _ _ _ _ h
      | le =>
        dsimp only at h
        refine zs_if_le hx hb (z_ok2 hok rfl) hd (fun q => ?_) (fun q => ?_)
        · rw [if_pos q] at h; exact hk _ _ _ _ _ _ h
        · rw [if_neg q] at h; exact hk _ _ _ _ _ _ h
    · cases h
  | if_icmp cd o =>
    obtain ⟨hd, rfl⟩ := z_ok1 hok rfl
    simp only [z_stp] at h
    split at h
    · cases cd with
      | eq =>
        dsimp only at h
        refine zs_icmp_eq hx hb (z_ok2 hok rfl) hd (fun q => ?_) (fun q => ?_)
        · rw [if_pos q] at h; exact hk _ _ _ _ _ _ h
        · rw [if_neg q] at h; exact hk _ _ _ _ _ _ h
      | ne =>
        dsimp only at h
        refine zs_icmp_ne hx hb (z_ok2 hok rfl) hd (fun q => ?_) (fun q => ?_)
        · rw [if_neg q] at h; exact hk _ _ _ _ _ _ h
        · rw [if_pos q] at h; exact hk _ _ _ _ _ _ h
      | lt =>
        dsimp only at h
        refine zs_icmp_lt hx hb (z_ok2 hok rfl) hd (fun q => ?_) (fun q => ?_)
        · rw [if_pos q] at h; exact hk _ _ _ _ _ _ h
        · rw [if_neg q] at h; exact hk _ _ _ _ _ _ h
      | ge =>
        dsimp only at h
        refine zs_icmp_ge hx hb (z_ok2 hok rfl) hd (fun q => ?_) (fun q => ?_)
        · rw [if_pos q] at h; exact hk _ _ _ _ _ _ h
        · rw [if_neg q] at h; exact hk _ _ _ _ _ _ h
      | gt =>
        dsimp only at h
        refine zs_icmp_gt hx hb (z_ok2 hok rfl) hd (fun q => ?_) (fun q => ?_)
        · rw [if_pos q] at h; exact hk _ _ _ _ _ _ h
        · rw [if_neg q] at h; exact hk _ _ _ _ _ _ h
      | le =>
        dsimp only at h
        refine zs_icmp_le hx hb (z_ok2 hok rfl) hd (fun q => ?_) (fun q => ?_)
        · rw [if_pos q] at h; exact hk _ _ _ _ _ _ h
        · rw [if_neg q] at h; exact hk _ _ _ _ _ _ h
    · cases h
  | tableswitch d lo hi offs =>
    have hd := z_ok0 hok
    simp only [z_stp] at h
    split at h
    · obtain ⟨h0, h⟩ := z_cnd h
      simp only [Bool.and_eq_true, decide_eq_true_eq, List.all_eq_true] at h0
      exact zs_tsw hx hb hd h0.1 h0.2 h (fun pc' r' q => hk _ _ _ _ _ _ q)
    · cases h
  | getfield j =>
    obtain ⟨hd, rfl⟩ := z_ok1 hok rfl
    simp only [z_stp] at h
    split at h
    · rename_i k0 o r0
      cases hf : M.1 j with
      | none => rw [hf] at h; cases h
      | some q =>
        obtain ⟨c1, kf⟩ := q
        rw [hf] at h
        obtain ⟨h0, h2⟩ := z_cnd h
        obtain ⟨ho, h3⟩ := z_ift h2
        have e0 := Nat.eq_of_beq_eq_true h0
        subst e0
        exact z_getc hx hb hts hown hK hE (hfl j _ kf hf) ho hd (fun v q => hk _ _ _ _ _ _ q) h3
    · cases h
  | putfield j =>
    obtain ⟨hd, rfl⟩ := z_ok1 hok rfl
    simp only [z_stp] at h
    split at h
    · rename_i v k0 o r0
      cases hf : M.1 j with
      | none => rw [hf] at h; cases h
      | some q =>
        obtain ⟨c1, kf⟩ := q
        rw [hf] at h
        obtain ⟨h0, h2⟩ := z_cnd h
        obtain ⟨ho, h3⟩ := z_ift h2
        simp only [Bool.and_eq_true] at h0
        have e0 := Nat.eq_of_beq_eq_true h0.1
        subst e0
        exact z_putc hx hb hts hown hK (hfl j _ kf hf) (Nat.blt_eq.mp h0.2) ho hd (fun g' q => hk _ _ _ _ _ _ q) h3
    · cases h
  | iaload =>
    obtain ⟨hd, rfl⟩ := z_ok1 hok rfl
    simp only [z_stp] at h
    split at h
    · obtain ⟨h0, h⟩ := z_cnd h
      obtain ⟨ho, h⟩ := z_ift h
      obtain ⟨hin, h⟩ := z_ift h
      simp only [Bool.and_eq_true] at h0
      exact zs_iald hx hb hK hE (Nat.blt_eq.mp h0.2) ho (Nat.eq_of_beq_eq_true h0.1) hin hd (hk _ _ _ _ _ _ h)
    · cases h
  | baload =>
    obtain ⟨hd, rfl⟩ := z_ok1 hok rfl
    simp only [z_stp] at h
    split at h
    · obtain ⟨h0, h⟩ := z_cnd h
      obtain ⟨ho, h⟩ := z_ift h
      obtain ⟨hin, h⟩ := z_ift h
      simp only [Bool.and_eq_true] at h0
      exact zs_zald hx hb hK hE (Nat.lt_trans (Nat.blt_eq.mp h0.2) (by decide)) ho (Nat.eq_of_beq_eq_true h0.1) hin hd (hk _ _ _ _ _ _ h)
    · cases h
  | iastore =>
    obtain ⟨hd, rfl⟩ := z_ok1 hok rfl
    simp only [z_stp] at h
    split at h
    · obtain ⟨h0, h⟩ := z_cnd h
      obtain ⟨ho, h⟩ := z_ift h
      obtain ⟨hin, h⟩ := z_ift h
      simp only [Bool.and_eq_true] at h0
      exact zs_iast hx hb hK (Nat.blt_eq.mp h0.2) ho (Nat.eq_of_beq_eq_true h0.1) hin hd (hk _ _ _ _ _ _ h)
    · cases h
  | bastore =>
    obtain ⟨hd, rfl⟩ := z_ok1 hok rfl
    simp only [z_stp] at h
    split at h
    · obtain ⟨h0, h⟩ := z_cnd h
      obtain ⟨ho, h⟩ := z_ift h
      obtain ⟨hin, h⟩ := z_ift h
      simp only [Bool.and_eq_true] at h0
      exact zs_zast hx hb hK (Nat.blt_eq.mp h0.2) ho (Nat.eq_of_beq_eq_true h0.1) hin hd (hk _ _ _ _ _ _ h)
    · cases h
  | arraylength =>
    obtain ⟨hd, rfl⟩ := z_ok1 hok rfl
    simp only [z_stp] at h
    split at h
    · exact zs_alen5 hx hb hK hd (hk _ _ _ _ _ _ h)
    · obtain ⟨h0, h⟩ := z_cnd h
      obtain ⟨ho, h⟩ := z_ift h
      simp only [Bool.and_eq_true] at h0
      exact zs_alen hx hb hK hE (Nat.blt_eq.mp h0.2) ho (Nat.blt_eq.mp h0.1) hd (hk _ _ _ _ _ _ h)
    · cases h
  | aaload =>
    obtain ⟨hd, rfl⟩ := z_ok1 hok rfl
    simp only [z_stp] at h
    split at h
    · obtain ⟨hin, h⟩ := z_ift h
      exact zs_aald hx hb hK (f := 4) (Or.inl rfl) hin hd (hk _ _ _ _ _ _ h)
    · obtain ⟨hin, h⟩ := z_ift h
      exact zs_aald hx hb hK (f := 7) (Or.inr (Or.inl rfl)) hin hd (hk _ _ _ _ _ _ h)
    · obtain ⟨hin, h⟩ := z_ift h
      exact zs_aald hx hb hK (f := 8) (Or.inr (Or.inr rfl)) hin hd (hk _ _ _ _ _ _ h)
    · cases h
  | invokevirtual j =>
    simp only [z_stp] at h
    cases hv : M.2.1 j with
    | none => rw [hv] at h; cases h
    | some ci =>
      rw [hv] at h
      exact z_call (hcal j ci (Or.inl rfl) hv) hk h
  | invokestatic j =>
    simp only [z_stp] at h
    cases hv : M.2.1 j with
    | none => rw [hv] at h; cases h
    | some ci =>
      rw [hv] at h
      exact z_call (hcal j ci (Or.inr rfl) hv) hk h
  | new j =>
    simp only [z_stp] at h
    cases hv : M.2.2.2.1 j with
    | none => rw [hv] at h; cases h
    | some x =>
      rw [hv] at h
      obtain ⟨h0, h⟩ := z_cnd h
      simp only [Bool.and_eq_true, Nat.ble_eq] at h0
      cases h
      exact hthr j x rfl hv lc st g b h0.1.1 h0.1.2 h0.2
  | ireturn =>
    obtain ⟨hd, rfl⟩ := z_ok1 hok rfl
    simp only [z_stp] at h
    split at h
    · split at h
      · rename_i hm
        rw [hm] at hrt
        cases h
        exact zs_iret hx hb hlocks hrt hd
      · rename_i hm
        rw [hm] at hrt
        obtain ⟨h01, h⟩ := z_ift h
        cases h
        exact zs_zret hx hb hlocks hrt h01 hd
      · cases h
    · cases h
  | lreturn =>
    obtain ⟨hd, rfl⟩ := z_ok1 hok rfl
    simp only [z_stp] at h
    split at h
    · obtain ⟨h0, h⟩ := z_cnd h
      have hm := Nat.eq_of_beq_eq_true h0
      rw [hm] at hrt
      cases h
      exact zs_lret hx hb hlocks hrt hd
    · cases h
  | return_ =>
    obtain ⟨hd, rfl⟩ := z_ok1 hok rfl
    simp only [z_stp] at h
    split at h
    · obtain ⟨h0, h⟩ := z_cnd h
      have hm := Nat.eq_of_beq_eq_true h0
      rw [hm] at hrt
      cases h
      exact zs_vret hx hb hlocks hrt hd
    · cases h
  | _ => simp only [z_stp] at h; cases h
end Main
