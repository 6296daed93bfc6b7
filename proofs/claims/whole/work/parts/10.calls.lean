/-! ===== runs and calls ===== -/
def z_args : Nat → List zVV → zLC
  | _, [] => []
  | i, v :: r => (i, v) :: z_args (bif z_isL v then i + 2 else i + 1) r
theorem z_args_eq (ad : zAD) : ∀ (vs : List zVV) (i : Nat), lv_args i (vs.map (z_tV ad)) = z_tL ad (z_args i vs) := by
  intro vs
  induction vs with
  | nil => intro i; rfl
  | cons v r ih =>
    intro i
    rw [List.map_cons, lv_args]
    unfold z_args z_tL
    rw [List.map_cons]
    congr 1
    rw [ih]
    unfold z_tL
    congr 1
    rcases v with x | q | x <;> rfl
/-- what a walk stands on -/
def zCx (p : Program) (s : State) (m : MethodId) (args : Array Value) (meth : Method) (c : Code) (cc : ByteArray) (own : String) (nL : Nat) (D : va_G) (ca : Nat → ClassId) (ad : zAD) (A : Nat → Prop) (g0 : zSG) : Prop :=
  p.tables.exec = Jvm.exec ∧ c.code = cc ∧ c.maxLocals = nL ∧ s.vm.findClass own = some m.cls ∧ (∀ w ∈ zWS, w.before args s = true) ∧ va_K D zCL (zTL ca) s ∧ (∀ q, s.heap.size ≤ q → A q) ∧ zEv D ca ad A g0 s s.heap ∧ meth.locks = false ∧ (∀ x ∈ c.exceptionTable.toList, False)
/-- a call by the pool's place j is good -/
def zCalOK (l : Launch) (R : Room) (own : String) (nL : Nat) (j : Nat) (ins : Instr) (ci : zCI) : Prop :=
  ∀ (p : Program) (e : Env) (s : State) (m : MethodId) (args : Array Value) (below : List Frame) (meth : Method) (c : Code) (cc : ByteArray) (D : va_G) (ca : Nat → ClassId) (ad : zAD) (A : Nat → Prop) (g0 : zSG) (pc : Nat), zCx p s m args meth c cc own nL D ca ad A g0 → decode cc pc = .ok (ins, 3) → zCalH p l e R s m args below meth c D ca ad A g0 nL pc (pc + 3) ci
def zThrOK (l : Launch) (R : Room) (own : String) (nL : Nat) (cc : ByteArray) (pc x : Nat) : Prop :=
  ∀ (p : Program) (e : Env) (s : State) (m : MethodId) (args : Array Value) (below : List Frame) (meth : Method) (c : Code) (D : va_G) (ca : Nat → ClassId) (ad : zAD) (A : Nat → Prop) (g0 : zSG), zCx p s m args meth c cc own nL D ca ad A g0 → zThrH p l e R s m args below meth c D ca ad A g0 nL pc x
section Runs
variable {p : Program} {l : Launch} {e : Env} {R : Room} {s : State} {m : MethodId} {args : Array Value} {below : List Frame} {meth : Method} {c : Code} {D : va_G} {ca : Nat → ClassId} {ad : zAD} {A : Nat → Prop} {g0 : zSG} {cc : ByteArray} {own : String} {nL : Nat} {M : zMI} {cd : zCD} {cut : List (Nat × List Nat)}
theorem z_inner_s (C : zCx p s m args meth c cc own nL D ca ad A g0) (hnL : M.2.2.2.2.1 = nL) (hrt : z_rt M.2.2.2.2.2 meth.sig.returnType) (hfl : ∀ j c kf, M.1 j = some (c, kf) → z_flb own j c kf = true) (hcs : ∀ j v, M.2.2.1 j = some v → z_csb own j v = true) (hcd : z_okc cc cd = true)
    (hthr : ∀ pc j nx tg x, z_look cd pc = some (.new j, nx, tg) → M.2.2.2.1 j = some x → zThrOK l R own nL cc pc x) (hcal : ∀ j ci, M.2.1 j = some ci → ∀ pc i nx tg, z_look cd pc = some (i, nx, tg) → (i = .invokevirtual j ∨ i = .invokestatic j) → zCalOK l R own nL j i ci)
    {ag : zAG} (hag : ∀ pc lc g b r, ag pc lc g b = some r → zG p l e R s m args below meth c D ca ad A g0 nL pc lc [] g b r) : ∀ (K pc : Nat) (lc : zLC) (st : List zVV) (g : zSG) (b : Nat × Nat) (r : zRR), z_inner M cd cut ag K pc lc st g b = some r → zG p l e R s m args below meth c D ca ad A g0 nL pc lc st g b r := by
  have C' := C
  obtain ⟨hx, hb, hml, hown, hts, hK, hA, hE, hlocks, hex⟩ := C
  intro K
  induction K with
  | zero => intro pc lc st g b r h; cases h
  | succ K ih =>
    intro pc lc st g b r h
    unfold z_inner at h
    cases hl : z_look cd pc with
    | none => rw [hl] at h; cases h
    | some q =>
      obtain ⟨i, nx, tg⟩ := q
      rw [hl] at h
      have hok := z_okc_at hcd hl
      refine z_step hx hb hts hown hK hE hlocks hnL hrt hfl hcs hok (fun j x hi hj => hthr pc j nx tg x (by rw [hl, hi]) hj p e s m args below meth c D ca ad A g0 C') (fun j ci hi hj => ?_) (fun pc' lc' st' g' b' r' h' => ?_) h
      · have hlen : z_len i = some 3 := by rcases hi with rfl | rfl <;> rfl
        obtain ⟨hd, hnx⟩ := z_ok1 hok hlen
        subst hnx
        exact hcal j ci hj pc i _ tg hl hi p e s m args below meth c cc D ca ad A g0 pc C' hd
      · cases hc : z_look cut pc' with
        | none =>
          rw [hc] at h'
          exact ih _ _ _ _ _ _ h'
        | some live =>
          rw [hc] at h'
          cases st' with
          | nil =>
            intro H locs cells slots ls hP hS hl h1 h2 h5
            exact hag _ _ _ _ _ h' H locs cells slots ls hP hS (z_keep_ls live hl) h1 h2 h5
          | cons v st' => cases h'
theorem z_run_s (C : zCx p s m args meth c cc own nL D ca ad A g0) (hnL : M.2.2.2.2.1 = nL) (hrt : z_rt M.2.2.2.2.2 meth.sig.returnType) (hfl : ∀ j c kf, M.1 j = some (c, kf) → z_flb own j c kf = true) (hcs : ∀ j v, M.2.2.1 j = some v → z_csb own j v = true) (hcd : z_okc cc cd = true)
    (hthr : ∀ pc j nx tg x, z_look cd pc = some (.new j, nx, tg) → M.2.2.2.1 j = some x → zThrOK l R own nL cc pc x) (hcal : ∀ j ci, M.2.1 j = some ci → ∀ pc i nx tg, z_look cd pc = some (i, nx, tg) → (i = .invokevirtual j ∨ i = .invokestatic j) → zCalOK l R own nL j i ci) :
    ∀ (n pc : Nat) (lc : zLC) (g : zSG) (b : Nat × Nat) (r : zRR), z_run M cd cut n pc lc g b = some r → zG p l e R s m args below meth c D ca ad A g0 nL pc lc [] g b r := by
  intro n
  induction n with
  | zero => intro pc lc g b r h; cases h
  | succ n ih =>
    intro pc lc g b r h
    unfold z_run at h
    exact z_inner_s C hnL hrt hfl hcs hcd hthr hcal ih 2000 pc lc [] g b r h
end Runs
/-- the contract of a method by its run -/
theorem z_met {l : Launch} {y : MethodName} {cc : ByteArray} {nL : Nat} {ret : Option FieldType} {rm : Room} {own : String} {M : zMI} {cd : zCD} {cut : List (Nat × List Nat)} {F : List zVV → zSG → Option zRR} (hy : plainName y.cls = true) (hown : y.cls = own) (hnL : M.2.2.2.2.1 = nL) (hrt : z_rt M.2.2.2.2.2 ret) (hfl : ∀ j c kf, M.1 j = some (c, kf) → z_flb own j c kf = true) (hcs : ∀ j v, M.2.2.1 j = some v → z_csb own j v = true) (hcd : z_okc cc cd = true)
    (hthr : ∀ pc j nx tg x, z_look cd pc = some (.new j, nx, tg) → M.2.2.2.1 j = some x → zThrOK l rm own nL cc pc x) (hcal : ∀ j ci, M.2.1 j = some ci → ∀ pc i nx tg, z_look cd pc = some (i, nx, tg) → (i = .invokevirtual j ∨ i = .invokestatic j) → zCalOK l rm own nL j i ci)
    (hlen : ∀ (ad : zAD) vs g r, F vs g = some r → (lg_sl (vs.map (z_tV ad))).length ≤ nL) (hF : ∀ vs g r, F vs g = some r → ∃ n, z_run M cd cut n 0 (z_args 0 vs) g (rm.cells, rm.slots) = some r) : zCt l y cc nL ret rm F := by
  intro D ca ad A g vs r hr
  refine vx_ofW hy rfl ?_
  intro p e s m args below meth c s₁ B hml hex hv
  obtain ⟨rfl, hK, hP, hA, hE⟩ := hv
  have hts : ∀ w ∈ zWS, w.before (vs.map (z_tV ad)).toArray s = true := fun w hw => atoms_spec (ws := .code y cc nL ret :: zWS) B.pre w (List.mem_cons_of_mem _ hw)
  have hown2 : s.vm.findClass own = some m.cls := by rw [← hown]; exact findClass_of_methodNamed B.named
  have C : zCx p s m (vs.map (z_tV ad)).toArray meth c cc own nL D ca ad A g := ⟨B.exec, B.bytes, hml, hown2, hts, hK, hA, hE, B.notSynchronized, hex⟩
  obtain ⟨n, hn⟩ := hF vs g r hr
  have h := z_run_s (l := l) (e := e) (R := rm) (below := below) C hnL (by rw [B.returns]; exact hrt) hfl hcs hcd hthr hcal n 0 (z_args 0 vs) g (rm.cells, rm.slots) r hn
  rw [lg_entry_eq]
  refine h s.heap [] 0 0 _ hP va_S.rf ?_ (by simp) (by simp) rfl
  rw [← z_args_eq]
  exact lv_entry (vs.map (z_tV ad)) (hlen ad vs g r hr)
theorem z_goodV {own C : String} {j : Nat} {y : MethodName} {bytes : ByteArray} {maxL : Nat} {ret : Option FieldType} (h1 : Cond.code y bytes maxL ret ∈ zWS) : GoodIn zWS (.code y bytes maxL ret :: zWS) := by
  intro w hw
  rcases List.mem_cons.mp hw with rfl | hw
  · exact zWS_in _ h1
  · exact zWS_in _ hw
section Back
variable {p : Program} {l : Launch} {e : Env} {R : Room} {s : State} {m : MethodId} {args : Array Value} {below : List Frame} {meth : Method} {c : Code} {D : va_G} {ca : Nat → ClassId} {ad : zAD} {A : Nat → Prop} {g0 : zSG} {nL pc : Nat} {lc : zLC} {st rest : List zVV} {g : zSG} {b : Nat × Nat} {r r' : zRR} {cc : ByteArray} {own : String} {mc ms : Nat} {H : Heap} {locs : List Loc} {cells slots : Nat} {ls : Array Slot} {a : Array Value}
/-- behind a call -/
theorem z_behind (hex : ∀ x ∈ c.exceptionTable.toList, False) (hlocks : meth.locks = false) (hS : va_S A s.heap H locs) (hl : lv_has ls nL (z_tL ad lc)) (h1 : mc ≤ b.1) (h2 : ms ≤ b.2) (c1 : cells + b.1 ≤ R.cells) (c2 : slots + b.2 ≤ R.slots) (h5 : g 5 = g0 5)
    (hr : vx_Run p l e R s m args below meth c H locs cells slots mc ms (F0 m pc ls (st.map (z_tV ad))) (rest.map (z_tV ad)) (zQ D ca ad A g r' a) (zX D ca ad A g r') A)
    (hk : ∀ v, r'.1 = .inl v → zG p l e R s m args below meth c D ca ad A g0 nL (pc + 3) lc (v.toList ++ rest) r'.2 (b.1 - mc, b.2 - ms) r) (hx : ∀ x, r'.1 = .inr x → r = (.inr x, r'.2)) : W p l e R s m args below meth c H locs cells slots (vx_MQ below (zQ D ca ad A g0 r) (zX D ca ad A g0 r) args s R.cells R.slots A) (F0 m pc ls (st.map (z_tV ad))) := by
  intro T hT X
  rcases hr T hT X with ⟨v, st₀, t, T', L, h0, X', hL, e1, e2, ⟨⟨v', hv, ho, hHP, h55⟩, hF⟩, stp⟩ | ⟨q, st₀, t, T', L, E, ce, h0, X', hL, e1, e2, ⟨⟨k, hk', hE, hHP, h55⟩, hF⟩, hce, hcv, hcl, stp⟩
  · cases ho
    obtain ⟨k1, k2, k3⟩ := vx_keep h0 e1 hS (fun q _ h => h) (fun q h => h) hL hF
    have hw := hk v' hv T'.heap (locs ++ L) (cells + mc) (slots + ms) ls (by rw [e1]; exact hHP) k3 hl (by dsimp only; omega) (by dsimp only; omega) (h55.trans h5)
    have es : (v'.toList ++ rest).map (z_tV ad) = (v'.map (z_tV ad)).toList ++ rest.map (z_tV ad) := by
      cases v' <;> simp
    rw [es] at hw
    obtain ⟨t2, a1, b1⟩ := hw T' rfl X'
    exact ⟨t2, stp t2 a1, b1⟩
  · obtain ⟨k1, k2, k3⟩ := vx_keep h0 e1 hS (fun q _ h => h) (fun q h => h) hL hF
    have er := hx k hk'
    subst er
    have ho := vx_out (p := p) (l := l) (e := e) (R := R) (s := s) (m := m) (args := args) (below := below) (meth := meth) (c := c) (H := T'.heap) (locs := locs ++ L) (cells := cells + mc) (slots := slots + ms) (ls := ls) (rest := rest.map (z_tV ad)) (Qc := zQ D ca ad A g0 (.inr k, r'.2)) (XC := zX D ca ad A g0 (.inr k, r'.2)) (free := A) (pc := pc) (mc := R.cells) (ms := R.slots)
      (fun x hx => absurd (hex x hx) id) hlocks (by rw [e1]; exact hce) hcv hcl (fun t9 ht9 hal => ⟨⟨k, rfl, hE, by rw [ht9, e1]; exact hHP, h55.trans h5⟩, k3.F ht9⟩) k3.2.2 (by omega) (by omega)
    obtain ⟨t2, a1, b1⟩ := ho T' rfl X'
    exact ⟨t2, stp.trans a1, b1⟩
end Back
/-- a virtual call -/
theorem z_calV {l : Launch} {R : Room} {own C : String} {nL j n cn : Nat} {rk : Nat} {y : MethodName} {bytes : ByteArray} {maxL : Nat} {ret : Option FieldType} {rm : Room} {F : List zVV → zSG → Option zRR} {T : u_T} {N : Nat} (hCt : zCt l y bytes maxL ret rm F) (hw : (decide (Cond.methodLink own j y ∈ zWS) && decide (Cond.instanceMethod y ∈ zWS) && decide (Cond.selects C y y ∈ zWS) && decide (Cond.initialized C ∈ zWS)) = true) (hcode : Cond.code y bytes maxL ret ∈ zWS) (hC : y.cls = C)
    (hd : y.cls ≠ "java/lang/invoke/MethodHandle" ∧ y.cls ≠ "java/lang/invoke/VarHandle" ∧ (parseMethodDescriptor y.desc).map (fun d => d.parameters.length) = some n) (hR : rm.frames + 1 ≤ R.frames ∧ 8 + (maxL + 11) + rm.locals ≤ R.locals) (hcn : zCL[cn]? = some (C, T, N)) (hrec : ∀ vs g r, F vs g = some r → ∃ i rv, vs = .inr (.inl (cn, i, 0)) :: rv ∧ i < z_ni cn) : zCalOK l R own nL j (.invokevirtual j) (F, n + 1, rk, rm.cells, rm.slots) := by
  intro p e s m args below meth c cc D ca ad A g0 pc Cx hdec
  obtain ⟨hx, hb, hml, hown, hts, hK, hA, hE, hlocks, hex⟩ := Cx
  simp only [Bool.and_eq_true, decide_eq_true_eq] at hw
  obtain ⟨⟨⟨w1, w2⟩, w3⟩, w4⟩ := hw
  intro lc st g b r' r a1 a2 a3 a4 hF hk hxx H locs cells slots ls hP hS hl c1 c2 h5
  dsimp only at a1 a2 a3 a4 hF hk
  obtain ⟨i, rv, hvs, hi⟩ := hrec _ _ _ hF
  have hlen : rv.length = n := by
    have := congrArg List.length hvs
    simp only [List.length_reverse, List.length_take, List.length_cons] at this
    omega
  have hst : st.map (z_tV ad) = (rv.map (z_tV ad)).reverse ++ .ref (ad cn i 0) :: (st.drop (n + 1)).map (z_tV ad) := by
    have e1 : st.take (n + 1) = rv.reverse ++ [.inr (.inl (cn, i, 0))] := by
      have := congrArg List.reverse hvs
      rw [List.reverse_reverse, List.reverse_cons] at this
      exact this
    conv => lhs; rw [← List.take_append_drop (n + 1) st, e1]
    simp [z_tV]
  rw [hvs] at hF
  have hM := hCt D ca ad A g _ r' hF
  refine z_behind (g := g) (r' := r') (mc := rm.cells) (ms := rm.slots) (a := (Value.ref (ad cn i 0) :: rv.map (z_tV ad)).toArray) hex hlocks hS hl a2 a3 c1 c2 h5 ?_ hk hxx
  refine vx_runV (As := rv.map (z_tV ad)) (n := n) (cc := cc) (nL := nL) (Ts := zWS) (own := own) (C := C) (b := ad cn i 0) ⟨hx, hb, hml, hown, hts⟩ hM ⟨callB_of n hts (z_goodV (own := own) (C := C) (j := j) hcode) rfl rfl rfl (by rw [hC]; exact hts _ w4) (hts _ w1) hd hR, hts _ w2, hts _ w3⟩ ⟨zPc_blind, ?_, fun U hU hW => ⟨rfl, va_K.moved hW.alike hK, by rw [hU]; exact hP, fun q hq => hA q (Nat.le_trans hS.1 (by rw [← hU]; exact hq)), by rw [hU]; exact ((hE.kept hS.2.1).warm hW).cong h5⟩⟩ rfl (by simp [hlen]) hl.1 hst (lv_room (by rw [z_wt_sum]; exact a4)) hdec ⟨by omega, by omega⟩
  exact va_recv hK (z_one (z_atO hP hE hS h5 hcn hi)) hcn (q0 := 0) rfl
/-- a static call -/
theorem z_calS {l : Launch} {R : Room} {own : String} {nL j n : Nat} {rk : Nat} {y : MethodName} {bytes : ByteArray} {maxL : Nat} {ret : Option FieldType} {rm : Room} {F : List zVV → zSG → Option zRR} (hCt : zCt l y bytes maxL ret rm F) (hw : (decide (Cond.methodLink own j y ∈ zWS) && decide (Cond.static y ∈ zWS) && decide (Cond.initialized y.cls ∈ zWS)) = true) (hcode : Cond.code y bytes maxL ret ∈ zWS)
    (hd : y.cls ≠ "java/lang/invoke/MethodHandle" ∧ y.cls ≠ "java/lang/invoke/VarHandle" ∧ (parseMethodDescriptor y.desc).map (fun d => d.parameters.length) = some n) (hR : rm.frames + 1 ≤ R.frames ∧ 8 + (maxL + 11) + rm.locals ≤ R.locals) : zCalOK l R own nL j (.invokestatic j) (F, n, rk, rm.cells, rm.slots) := by
  intro p e s m args below meth c cc D ca ad A g0 pc Cx hdec
  obtain ⟨hx, hb, hml, hown, hts, hK, hA, hE, hlocks, hex⟩ := Cx
  simp only [Bool.and_eq_true, decide_eq_true_eq] at hw
  obtain ⟨⟨w1, w2⟩, w4⟩ := hw
  intro lc st g b r' r a1 a2 a3 a4 hF hk hxx H locs cells slots ls hP hS hl c1 c2 h5
  dsimp only at a1 a2 a3 a4 hF hk
  have hst : st.map (z_tV ad) = (((st.take n).reverse).map (z_tV ad)).reverse ++ (st.drop n).map (z_tV ad) := by
    conv => lhs; rw [← List.take_append_drop n st]
    simp
  have hM := hCt D ca ad A g _ r' hF
  refine z_behind (g := g) (r' := r') (mc := rm.cells) (ms := rm.slots) (a := (((st.take n).reverse).map (z_tV ad)).toArray) hex hlocks hS hl a2 a3 c1 c2 h5 ?_ hk hxx
  exact vx_runS (As := ((st.take n).reverse).map (z_tV ad)) (n := n) (cc := cc) (nL := nL) (Ts := zWS) (own := own) ⟨hx, hb, hml, hown, hts⟩ hM ⟨callB_of n hts (z_goodV (own := own) (C := own) (j := j) hcode) rfl rfl rfl (hts _ w4) (hts _ w1) hd hR, hts _ w2⟩ ⟨zPc_blind, fun U hU hW => ⟨rfl, va_K.moved hW.alike hK, by rw [hU]; exact hP, fun q hq => hA q (Nat.le_trans hS.1 (by rw [← hU]; exact hq)), by rw [hU]; exact ((hE.kept hS.2.1).warm hW).cong h5⟩⟩ rfl (by simp; omega) hl.1 hst (lv_room (by rw [z_wt_sum]; exact a4)) hdec ⟨by omega, by omega⟩
