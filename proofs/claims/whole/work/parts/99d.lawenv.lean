/-! ===== the law's side: what stands between calls, and calls ===== -/
def zE0 (ad : zAD) (A : Nat → Prop) (U : State) (H : Heap) : Prop :=
  vx_Zq Bundle.tN "UNASSIGNED_STACK" Bundle.steD A U H ∧ vx_Zq Bundle.tN "SUPPRESSED_SENTINEL" Bundle.listD A U H ∧
  (∀ q ∈ zMsg, ∃ a, vk_R RX4 q.1 q.2 a U) ∧ (∀ i, i < 8 → vk_R RX1 (zWds.getD i (0, "")).1 (zWds.getD i (0, "")).2 (ad 6 i 0) U) ∧
  vk_S 8 zLen zByt (fun i => ad 6 i 0) (fun i => ad 6 i 1) A U H ∧ va_Z "java/lang/String" "COMPACT_STRINGS" "Z" (.int 1) A U H ∧
  va_Zq "jdk/internal/util/Preconditions" "SIOOBE_FORMATTER" "Ljava/util/function/BiFunction;" A U H ∧ (∀ x ∈ zDecl, va_Nw (.declares x) U) ∧ (∀ q ∈ zCast, va_Nw (.castable q.1 q.2) U)
theorem zE0.narrow {ad : zAD} {A B : Nat → Prop} {U : State} {H : Heap} (h : zE0 ad A U H) (hAB : ∀ q, B q → A q) : zE0 ad B U H := by
  obtain ⟨h3, h4, h5, h6, h7, h8, h9, h10, h11⟩ := h
  exact ⟨h3.narrow hAB, h4.narrow hAB, h5, h6, h7.narrow hAB, va_Z.narrow h8 hAB, va_Zq.narrow h9 hAB, h10, h11⟩
theorem zE0.kept {ad : zAD} {A : Nat → Prop} {U : State} {H H1 : Heap} (h : zE0 ad A U H) (hq : ∀ a : Nat, a < H.size → ¬ A a → H1[a]? = H[a]?) : zE0 ad A U H1 := by
  obtain ⟨h3, h4, h5, h6, h7, h8, h9, h10, h11⟩ := h
  exact ⟨h3.kept hq, h4.kept hq, h5, h6, h7.kept hq, va_Z.kept h8 hq, va_Zq.kept h9 hq, h10, h11⟩
theorem zE0.warm {ad : zAD} {A : Nat → Prop} {s U : State} {H : Heap} (hW : s.WarmedH U.vm) (h : zE0 ad A s H) : zE0 ad A U H := by
  obtain ⟨h3, h4, h5, h6, h7, h8, h9, h10, h11⟩ := h
  exact ⟨vx_Zq.moved hW.alike h3, vx_Zq.moved hW.alike h4, fun q hq => by obtain ⟨a, ha⟩ := h5 q hq; exact ⟨a, ha.warm hW⟩, fun i hi => (h6 i hi).warm hW, h7.moved hW.alike, va_Z.moved hW.alike h8, va_Zq.moved hW.alike h9, fun x hx => (h10 x hx).warmD hW, fun q hq => (h11 q hq).warmC hW⟩
theorem zE0.same {ad : zAD} {A : Nat → Prop} {s U : State} {H : Heap} (hv : U.vm = s.vm) (h : zE0 ad A s H) : zE0 ad A U H := by
  obtain ⟨h3, h4, h5, h6, h7, h8, h9, h10, h11⟩ := h
  have ha : s.vm.Alike U.vm := by rw [hv]; exact Vm.Alike.refl s.vm
  exact ⟨vx_Zq.moved ha h3, vx_Zq.moved ha h4, fun q hq => by obtain ⟨a, ha⟩ := h5 q hq; exact ⟨a, ha.same hv⟩, fun i hi => (h6 i hi).same hv, h7.moved ha, va_Z.moved ha h8, va_Zq.moved ha h9, fun x hx => (h10 x hx).same rfl hv.symm, fun q hq => (h11 q hq).same rfl hv.symm⟩
/-- two tables of addresses that differ in scripts alone -/
def zAe (ad ad' : zAD) : Prop := ∀ c i k, c ≠ 5 → ad' c i k = ad c i k
theorem zE0.ad {ad ad' : zAD} {A : Nat → Prop} {U : State} {H : Heap} (h : zE0 ad A U H) (he : zAe ad ad') : zE0 ad' A U H := by
  have e0 : (fun i => ad' 6 i 0) = (fun i => ad 6 i 0) := funext fun i => he 6 i 0 (by decide)
  have e1 : (fun i => ad' 6 i 1) = (fun i => ad 6 i 1) := funext fun i => he 6 i 1 (by decide)
  obtain ⟨h3, h4, h5, h6, h7, h8, h9, h10, h11⟩ := h
  refine ⟨h3, h4, h5, fun i hi => ?_, ?_, h8, h9, h10, h11⟩
  · rw [he 6 i 0 (by decide)]
    exact h6 i hi
  · rw [e0, e1]
    exact h7
/-- what a call from outside may change: the world, and what is new -/
def zAw (ad : zAD) (n : Nat) : Nat → Prop := fun q => (∃ x ∈ zWI, q = z_aq ad x) ∨ n ≤ q
/-- the world and the scripts, apart -/
def zLI (D : va_G) (ca : Nat → ClassId) (ad : zAD) (A0 : Nat → Prop) (g : zSG) (H : Heap) : Prop := (va_P D zCL (z_wl ad ca g) H ∧ va_D A0 (z_wl ad ca g)) ∧ va_P D zCL (z_sl ad ca g) H ∧ ∀ q ∈ zSI, ∀ x ∈ zWI, z_aq ad q ≠ z_aq ad x
section Lw
variable {D : va_G} {ca : Nat → ClassId} {ad : zAD} {A0 : Nat → Prop} {g : zSG} {H : Heap}
theorem zl_lt (h : zLI D ca ad A0 g H) {x : Nat × Nat × Nat} (hx : x ∈ zWI) : z_aq ad x < H.size := by
  obtain ⟨k, -, h2⟩ := z_wlget (ad := ad) (ca := ca) (g := g) hx
  exact (h.1.1 k _ h2).lt
theorem zl_in (h : zLI D ca ad A0 g H) {x : Nat × Nat × Nat} (hx : x ∈ zWI) : A0 (z_aq ad x) := by
  obtain ⟨k, -, h2⟩ := z_wlget (ad := ad) (ca := ca) (g := g) hx
  exact h.1.2.2 k _ h2
theorem z_wlmem {k : Nat} {q : Nat × va_E} (h : (z_wl ad ca g)[k]? = some q) : ∃ x ∈ zWI, q = (z_aq ad x, z_cell ad ca g x) := by
  have hm := List.mem_of_getElem? h
  unfold z_wl at hm
  obtain ⟨x, hx, e⟩ := List.mem_map.mp hm
  exact ⟨x, hx, e.symm⟩
theorem z_slmem {k : Nat} {q : Nat × va_E} (h : (z_sl ad ca g)[k]? = some q) : ∃ x ∈ zSI, q = (z_aq ad x, z_cell ad ca g x) := by
  have hm := List.mem_of_getElem? h
  unfold z_sl at hm
  obtain ⟨x, hx, e⟩ := List.mem_map.mp hm
  exact ⟨x, hx, e.symm⟩
theorem z_slget {x : Nat × Nat × Nat} (hx : x ∈ zSI) : ∃ k : Nat, (z_sl ad ca g)[k]? = some (z_aq ad x, z_cell ad ca g x) := by
  obtain ⟨k, hk⟩ := List.getElem?_of_mem hx
  refine ⟨k, ?_⟩
  unfold z_sl
  rw [List.getElem?_map, hk]
  rfl
theorem zl_slt (h : zLI D ca ad A0 g H) {x : Nat × Nat × Nat} (hx : x ∈ zSI) : z_aq ad x < H.size := by
  obtain ⟨k, hk⟩ := z_slget (ad := ad) (ca := ca) (g := g) hx
  exact (h.2.1 k _ hk).lt
theorem zl_HP (h : zLI D ca ad A0 g H) : zHP D ca ad (zAw ad H.size) g H := by
  refine ⟨h.1.1, h.1.2.1, fun k q hk => ?_⟩
  obtain ⟨x, hx, e⟩ := z_wlmem hk
  rw [e]
  exact Or.inl ⟨x, hx, rfl⟩
theorem zl_nsc (h : zLI D ca ad A0 g H) {q : Nat × Nat × Nat} (hq : q ∈ zSI) : ¬ zAw ad H.size (z_aq ad q) := by
  rintro (⟨x, hx, e⟩ | e)
  · exact h.2.2 q hq x hx e
  · have := zl_slt h hq
    omega
theorem zl_sub {n0 : Nat} (h : zLI D ca ad A0 g H) (hA : ∀ q, n0 ≤ q → A0 q) (hn : n0 ≤ H.size) : ∀ q, zAw ad H.size q → A0 q := by
  rintro q (⟨x, hx, e⟩ | e)
  · rw [e]
    exact zl_in h hx
  · exact hA q (by omega)
theorem zl_Ev {n0 : Nat} {U : State} (h : zLI D ca ad A0 g H) (hA : ∀ q, n0 ≤ q → A0 q) (hn : n0 ≤ H.size) (hE : zE0 ad A0 U H) : zEv D ca ad (zAw ad H.size) g U H := ⟨h.2.1, fun q hq => zl_nsc h hq, hE.narrow (zl_sub h hA hn)⟩
/-- behind a call that leaves the scripts -/
theorem zl_back {n0 : Nat} {g1 : zSG} {H1 : Heap} (h : zLI D ca ad A0 g H) (hA : ∀ q, n0 ≤ q → A0 q) (hn : n0 ≤ H.size) (hP : zHP D ca ad (zAw ad H.size) g1 H1) (h5 : g1 5 = g 5) (hk : ∀ q : Nat, q < H.size → ¬ zAw ad H.size q → H1[q]? = H[q]?) : zLI D ca ad A0 g1 H1 := by
  refine ⟨⟨hP.1, hP.2.weaken (fun k q _ hq => zl_sub h hA hn _ hq)⟩, ?_, h.2.2⟩
  rw [z_sl_cong h5]
  refine h.2.1.kept (fun k q hq => ?_)
  obtain ⟨x, hx, e⟩ := z_slmem hq
  rw [e]
  exact hk _ (zl_slt h hx) (zl_nsc h hx)
end Lw
/-- what a call gives that may make a script anew -/
def zQu (D : va_G) (ca : Nat → ClassId) (ad : zAD) (A : Nat → Prop) (g : zSG) (r : zRR) : Array Value → State → Outcome → State → Prop := fun _ st o t => (∃ v ad', r.1 = .inl v ∧ o = .returned (v.map (z_tV ad)) ∧ zAe ad ad' ∧ zHP D ca ad' A r.2 t.heap ∧ va_P D zCL (z_sl ad' ca r.2) t.heap ∧ ∀ q ∈ zSI, z_aq ad' q = z_aq ad q ∨ st.heap.size ≤ z_aq ad' q) ∧ va_F A st t
theorem z_aq_e {ad ad' : zAD} (he : zAe ad ad') {x : Nat × Nat × Nat} (hx : x ∈ zWI) : z_aq ad' x = z_aq ad x := he _ _ _ (by have := zWI_lt x hx; omega)
section Lc
variable {p : Program} {l : Launch} {e : Env} {R : Room} {s : State} {m : MethodId} {args : Array Value} {below : List Frame} {meth : Method} {c : Code} {D : va_G} {ca : Nat → ClassId} {ad : zAD} {A0 : Nat → Prop} {g : zSG} {H : Heap} {locs : List Loc} {cells slots mc ms : Nat} {pc : Nat} {ls : Array Slot} {st0 rest : List Value} {Q : State → Prop} {r : zRR} {a : Array Value} {cc : ByteArray} {own : String} {nL : Nat}
/-- a run whose callee leaves the scripts, in any frame -/
theorem zl_run (hr : vx_Run p l e R s m args below meth c H locs cells slots mc ms (F0 m pc ls st0) rest (zQ D ca ad (zAw ad H.size) g r a) (zX D ca ad (zAw ad H.size) g r) (zAw ad H.size)) (hA : ∀ q, s.heap.size ≤ q → A0 q) (hS : va_S A0 s.heap H locs) (hL : zLI D ca ad A0 g H)
    (kr : ∀ v, r.1 = .inl v → r.2 5 = g 5 → ∀ (H1 : Heap) (locs1 : List Loc), zLI D ca ad A0 r.2 H1 → va_S A0 s.heap H1 locs1 → (∀ q : Nat, q < H.size → ¬ zAw ad H.size q → H1[q]? = H[q]?) → W p l e R s m args below meth c H1 locs1 (cells + mc) (slots + ms) Q (F0 m (pc + 3) ls ((v.map (z_tV ad)).toList ++ rest)))
    (kx : ∀ k, r.1 = .inr k → r.2 5 = g 5 → ∀ (H1 : Heap) (locs1 : List Loc) (q : Addr) (ce : Cell), zLI D ca ad A0 r.2 H1 → va_S A0 s.heap H1 locs1 → (∀ q : Nat, q < H.size → ¬ zAw ad H.size q → H1[q]? = H[q]?) → H1[q]? = some ce → ce.vm = .none → s.vm.findClass (zEx k) = some ce.cls → vx_W p l e R s m args below meth c H1 locs1 (cells + mc) (slots + ms) Q (F0 m pc ls rest) q) : W p l e R s m args below meth c H locs cells slots Q (F0 m pc ls st0) := by
  intro T hT X
  rcases hr T hT X with ⟨v, st₀, t, T', L, h0, X', hL', e1, e2, ⟨⟨v', hv, ho, hHP, h55⟩, hF⟩, stp⟩ | ⟨q, st₀, t, T', L, E, ce, h0, X', hL', e1, e2, ⟨⟨k, hk', hE, hHP, h55⟩, hF⟩, hce, hcv, hcl, stp⟩
  · cases ho
    obtain ⟨k1, k2, k3⟩ := vx_keep h0 e1 hS (fun q _ h => zl_sub hL hA hS.1 q h) (fun q h => zl_sub hL hA hS.1 q h) hL' hF
    obtain ⟨t2, a1, b1⟩ := kr v' hv h55 T'.heap (locs ++ L) (zl_back hL hA hS.1 (by rw [e1]; exact hHP) h55 k2) k3 k2 T' rfl X'
    exact ⟨t2, stp t2 a1, b1⟩
  · obtain ⟨k1, k2, k3⟩ := vx_keep h0 e1 hS (fun q _ h => zl_sub hL hA hS.1 q h) (fun q h => zl_sub hL hA hS.1 q h) hL' hF
    obtain ⟨t2, a1, b1⟩ := kx k hk' h55 T'.heap (locs ++ L) q ce (zl_back hL hA hS.1 (by rw [e1]; exact hHP) h55 k2) k3 k2 (by rw [e1]; exact hce) hcv (by rw [← hE]; exact hcl) T' rfl X'
    exact ⟨t2, stp.trans a1, b1⟩
/-- a run that may make a script anew -/
theorem zl_runU (hr : vx_Run p l e R s m args below meth c H locs cells slots mc ms (F0 m pc ls st0) rest (zQu D ca ad (zAw ad H.size) g r a) (zX D ca ad (zAw ad H.size) g r) (zAw ad H.size)) (hA : ∀ q, s.heap.size ≤ q → A0 q) (hS : va_S A0 s.heap H locs) (hL : zLI D ca ad A0 g H)
    (kr : ∀ v, r.1 = .inl v → ∀ (H1 : Heap) (locs1 : List Loc) (ad' : zAD), zAe ad ad' → zLI D ca ad' A0 r.2 H1 → (∀ q ∈ zSI, z_aq ad' q = z_aq ad q ∨ H.size ≤ z_aq ad' q) → va_S A0 s.heap H1 locs1 → (∀ q : Nat, q < H.size → ¬ zAw ad H.size q → H1[q]? = H[q]?) → W p l e R s m args below meth c H1 locs1 (cells + mc) (slots + ms) Q (F0 m (pc + 3) ls ((v.map (z_tV ad)).toList ++ rest)))
    (kx : ∀ k, r.1 = .inr k → ∀ (H1 : Heap) (locs1 : List Loc) (q : Addr) (ce : Cell), zLI D ca ad A0 r.2 H1 → va_S A0 s.heap H1 locs1 → (∀ q : Nat, q < H.size → ¬ zAw ad H.size q → H1[q]? = H[q]?) → H1[q]? = some ce → ce.vm = .none → s.vm.findClass (zEx k) = some ce.cls → vx_W p l e R s m args below meth c H1 locs1 (cells + mc) (slots + ms) Q (F0 m pc ls rest) q) : W p l e R s m args below meth c H locs cells slots Q (F0 m pc ls st0) := by
  intro T hT X
  rcases hr T hT X with ⟨v, st₀, t, T', L, h0, X', hL', e1, e2, ⟨⟨v', ad', hv, ho, hae, hHP, hsl, hnw⟩, hF⟩, stp⟩ | ⟨q, st₀, t, T', L, E, ce, h0, X', hL', e1, e2, ⟨⟨k, hk', hE, hHP, h55⟩, hF⟩, hce, hcv, hcl, stp⟩
  · cases ho
    rw [h0] at hnw
    obtain ⟨k1, k2, k3⟩ := vx_keep h0 e1 hS (fun q _ h => zl_sub hL hA hS.1 q h) (fun q h => zl_sub hL hA hS.1 q h) hL' hF
    have hLI : zLI D ca ad' A0 r.2 T'.heap := by
      rw [e1]
      refine ⟨⟨hHP.1, hHP.2.weaken (fun k q _ hq => zl_sub hL hA hS.1 _ hq)⟩, hsl, fun q hq x hx => ?_⟩
      rw [z_aq_e hae hx]
      rcases hnw q hq with h | h
      · rw [h]
        exact hL.2.2 q hq x hx
      · have := zl_lt hL hx
        omega
    obtain ⟨t2, a1, b1⟩ := kr v' hv T'.heap (locs ++ L) ad' hae hLI hnw k3 k2 T' rfl X'
    exact ⟨t2, stp t2 a1, b1⟩
  · obtain ⟨k1, k2, k3⟩ := vx_keep h0 e1 hS (fun q _ h => zl_sub hL hA hS.1 q h) (fun q h => zl_sub hL hA hS.1 q h) hL' hF
    obtain ⟨t2, a1, b1⟩ := kx k hk' T'.heap (locs ++ L) q ce (zl_back hL hA hS.1 (by rw [e1]; exact hHP) h55 k2) k3 k2 (by rw [e1]; exact hce) hcv (by rw [← hE]; exact hcl) T' rfl X'
    exact ⟨t2, stp.trans a1, b1⟩
theorem zl_runCU (hr : vx_Run p l e R s m args below meth c H locs cells slots mc ms (F0 m pc ls st0) rest (zQ D ca ad (zAw ad H.size) g r a) (zX D ca ad (zAw ad H.size) g r) (zAw ad H.size)) (hL : zLI D ca ad A0 g H) : vx_Run p l e R s m args below meth c H locs cells slots mc ms (F0 m pc ls st0) rest (zQu D ca ad (zAw ad H.size) g r a) (zX D ca ad (zAw ad H.size) g r) (zAw ad H.size) := by
  intro T hT X
  rcases hr T hT X with ⟨v, st₀, t, T', L, h0, X', hL', e1, e2, ⟨⟨v', hv, ho, hHP, h55⟩, hF⟩, stp⟩ | h
  · refine Or.inl ⟨v, st₀, t, T', L, h0, X', hL', e1, e2, ⟨⟨v', ad, hv, ho, fun _ _ _ _ => rfl, hHP, ?_, fun q _ => Or.inl rfl⟩, hF⟩, stp⟩
    rw [z_sl_cong h55]
    refine hL.2.1.kept (fun k q hq => ?_)
    obtain ⟨x, hx, e⟩ := z_slmem hq
    rw [e]
    have h9 := hF.2 (z_aq ad x) (by rw [h0]; exact zl_slt hL hx) (zl_nsc hL hx)
    rw [h9, h0]
  · exact Or.inr h
theorem zl_pre {vs : List zVV} (hK : va_K D zCL (zTL ca) s) (hE : zE0 ad A0 s s.heap) (hA : ∀ q, s.heap.size ≤ q → A0 q) (hS : va_S A0 s.heap H locs) (hL : zLI D ca ad A0 g H) (U : State) (hU : U.heap = H) (hW : s.WarmedH U.vm) : zPc D ca ad (zAw ad H.size) g vs (vs.map (z_tV ad)).toArray U := by
  refine ⟨rfl, va_K.moved hW.alike hK, by rw [hU]; exact zl_HP hL, fun q hq => Or.inr (by rw [hU] at hq; exact hq), ?_⟩
  rw [hU]
  exact zl_Ev hL hA hS.1 ((hE.kept hS.2.1).warm hW)
/-- a virtual call of a method by its contract -/
theorem zl_rV {C : String} {j n cn i : Nat} {y : MethodName} {bytes : ByteArray} {maxL : Nat} {ret : Option FieldType} {rm : Room} {F : List zVV → zSG → Option zRR} {T : u_T} {N : Nat} {vs : List zVV} (hCt : zCt l y bytes maxL ret rm F) (hw : (decide (Cond.methodLink own j y ∈ zWS) && decide (Cond.instanceMethod y ∈ zWS) && decide (Cond.selects C y y ∈ zWS) && decide (Cond.initialized C ∈ zWS)) = true) (hcode : Cond.code y bytes maxL ret ∈ zWS) (hC : y.cls = C)
    (hd : y.cls ≠ "java/lang/invoke/MethodHandle" ∧ y.cls ≠ "java/lang/invoke/VarHandle" ∧ (parseMethodDescriptor y.desc).map (fun d => d.parameters.length) = some n) (hR : rm.frames + 1 ≤ R.frames ∧ 8 + (maxL + 11) + rm.locals ≤ R.locals) (hcn : zCL[cn]? = some (C, T, N)) (hi : i < z_ni cn) (hi5 : cn < 5)
    (Cf : CallFix p m c cc nL s args zWS own) (hK : va_K D zCL (zTL ca) s) (hE : zE0 ad A0 s s.heap) (hA : ∀ q, s.heap.size ≤ q → A0 q) (hS : va_S A0 s.heap H locs) (hL : zLI D ca ad A0 g H) (hF : F (.inr (.inl (cn, i, 0)) :: vs) g = some r) (hn : vs.length = n) (hst : st0 = (vs.map (z_tV ad)).reverse ++ .ref (ad cn i 0) :: rest) (hrest : (rest.map fun v => v.category).sum ≤ 8) (hsz : ls.size = nL) (hdec : decode cc pc = .ok (.invokevirtual j, 3)) (hroom : cells + rm.cells ≤ R.cells ∧ slots + rm.slots ≤ R.slots) :
    vx_Run p l e R s m args below meth c H locs cells slots rm.cells rm.slots (F0 m pc ls st0) rest (zQ D ca ad (zAw ad H.size) g r (Value.ref (ad cn i 0) :: vs.map (z_tV ad)).toArray) (zX D ca ad (zAw ad H.size) g r) (zAw ad H.size) := by
  obtain ⟨hx, hb, hml, hown, hts⟩ := Cf
  simp only [Bool.and_eq_true, decide_eq_true_eq] at hw
  obtain ⟨⟨⟨w1, w2⟩, w3⟩, w4⟩ := hw
  have hM := hCt D ca ad (zAw ad H.size) g _ r hF
  refine vx_runV (As := vs.map (z_tV ad)) (n := n) (cc := cc) (nL := nL) (Ts := zWS) (own := own) (C := C) (b := ad cn i 0) ⟨hx, hb, hml, hown, hts⟩ hM ⟨callB_of n hts (z_goodV (own := own) (C := C) (j := j) hcode) rfl rfl rfl (by rw [hC]; exact hts _ w4) (hts _ w1) hd hR, hts _ w2, hts _ w3⟩ ⟨zPc_blind, ?_, fun U hU hW => zl_pre (vs := .inr (.inl (cn, i, 0)) :: vs) hK hE hA hS hL U hU hW⟩ rfl (by simp [hn]) hsz hst (lv_room hrest) hdec hroom
  exact va_recv hK (z_one (z_atW (zl_HP hL) (zWI_obj cn hi5 i hi))) hcn (q0 := 0) rfl
/-- a static call -/
theorem zl_rS {j n : Nat} {y : MethodName} {bytes : ByteArray} {maxL : Nat} {ret : Option FieldType} {rm : Room} {F : List zVV → zSG → Option zRR} {vs : List zVV} (hCt : zCt l y bytes maxL ret rm F) (hw : (decide (Cond.methodLink own j y ∈ zWS) && decide (Cond.static y ∈ zWS) && decide (Cond.initialized y.cls ∈ zWS)) = true) (hcode : Cond.code y bytes maxL ret ∈ zWS)
    (hd : y.cls ≠ "java/lang/invoke/MethodHandle" ∧ y.cls ≠ "java/lang/invoke/VarHandle" ∧ (parseMethodDescriptor y.desc).map (fun d => d.parameters.length) = some n) (hR : rm.frames + 1 ≤ R.frames ∧ 8 + (maxL + 11) + rm.locals ≤ R.locals)
    (Cf : CallFix p m c cc nL s args zWS own) (hK : va_K D zCL (zTL ca) s) (hE : zE0 ad A0 s s.heap) (hA : ∀ q, s.heap.size ≤ q → A0 q) (hS : va_S A0 s.heap H locs) (hL : zLI D ca ad A0 g H) (hF : F vs g = some r) (hn : vs.length = n) (hst : st0 = (vs.map (z_tV ad)).reverse ++ rest) (hrest : (rest.map fun v => v.category).sum ≤ 8) (hsz : ls.size = nL) (hdec : decode cc pc = .ok (.invokestatic j, 3)) (hroom : cells + rm.cells ≤ R.cells ∧ slots + rm.slots ≤ R.slots) :
    vx_Run p l e R s m args below meth c H locs cells slots rm.cells rm.slots (F0 m pc ls st0) rest (zQ D ca ad (zAw ad H.size) g r (vs.map (z_tV ad)).toArray) (zX D ca ad (zAw ad H.size) g r) (zAw ad H.size) := by
  obtain ⟨hx, hb, hml, hown, hts⟩ := Cf
  simp only [Bool.and_eq_true, decide_eq_true_eq] at hw
  obtain ⟨⟨w1, w2⟩, w4⟩ := hw
  have hM := hCt D ca ad (zAw ad H.size) g _ r hF
  exact vx_runS (As := vs.map (z_tV ad)) (n := n) (cc := cc) (nL := nL) (Ts := zWS) (own := own) ⟨hx, hb, hml, hown, hts⟩ hM ⟨callB_of n hts (z_goodV (own := own) (C := own) (j := j) hcode) rfl rfl rfl (hts _ w4) (hts _ w1) hd hR, hts _ w2⟩ ⟨zPc_blind, fun U hU hW => zl_pre hK hE hA hS hL U hU hW⟩ rfl (by simp [hn]) hsz hst (lv_room hrest) hdec hroom
end Lc
