/-! ===== the law: its rows ===== -/
def R_law : String := "ReplayHouseLaw"
def lw_P (b : Addr) (xs : List Int32) (args : Array Value) (s : State) : Prop := args = #[.ref b] ∧ s.IntsAt b xs ∧ xs.length ≤ 3072 ∧ (Jvm.Cond.and given_1 narrow_1).before args s = true
def lw_Q (_ : Array Value) (s : State) (o : Outcome) (t : State) : Prop := o = .returned (some (.int 1)) ∧ Framed s o t [] 601024 7293034
def lw_Z (below : List Frame) (a : Array Value) (s : State) : State → Prop := fun t => ∃ o, t.status = .running ∧ Ended t below o ∧ lw_Q a s o t
theorem lw_ret {p : Program} {l : Launch} {e : Env} {s : State} {m : MethodId} {below : List Frame} {meth : Method} {c : Code} {b : Nat} (hx : p.tables.exec = Jvm.exec) (hb : c.code = code) (hr : meth.sig.returnType = ret) (hlocks : meth.locks = false) {pc : Nat} {H : Heap} {ls : Array Slot} (hdg : decode code pc = .ok (.ireturn, 1)) : W p l e room_1 s m #[Value.ref b] below meth c H [] 601024 7293034 (lw_Z below #[Value.ref b] s) (F0 m pc ls [.int 1]) := by
  intro T hT X
  obtain ⟨fs, hret, hrun, hended, hW, hframe⟩ := X.leave (v := some (.int 1)) (hlocks := hlocks) (fun h => by rw [hr] at h; cases h)
  have hmeth' : T.vm.method? m = some meth := X.method'
  refine ⟨T.setFrames fs, ?_, .returned (some (.int 1)), hrun, hended, rfl, ⟨_, rfl⟩, hW, hframe⟩
  jvm_step X.here [X.here.top, hx, hb, hdg, hmeth', hr, ret, narrow_b1]
  (try refine ⟨rfl, ?_⟩); (try refine ⟨rfl, ?_⟩)
  first | (intro acts; rw [hret _ acts rfl rfl rfl]) | rw [hret _ _ rfl rfl rfl]
  exact Steps.refl _
def lw_At (p : Program) (s : State) (m : MethodId) (meth : Method) (c : Code) (b L : Nat) (xs : Nat → Int32) : Prop :=
  p.tables.exec = Jvm.exec ∧ c.code = code ∧ meth.sig.returnType = ret ∧ c.maxLocals = 7 ∧ s.vm.findClass R_law = some m.cls ∧ (∀ w ∈ lw_tbl, w.before #[Value.ref b] s = true) ∧ va_X b L xs s s.heap ∧ b < s.heap.size ∧ meth.locks = false ∧ (Jvm.Cond.and given_1 narrow_1).before #[Value.ref b] s = true
/-- the script's argument k -/
def la_arg (pc k : Nat) : Bool := decide (decode code pc = .ok (.aload_n 0, 1)) && decide (decode code (pc + 1) = .ok (.iload 4, 2)) && decide (decode code (pc + 1 + 2) = .ok (.iconst (k : Int), 1)) && decide (Int32.ofInt (k : Int) = nI k) && decide (decode code (pc + 1 + 2 + 1) = .ok (.iadd, 1)) && decide (decode code (pc + 1 + 2 + 1 + 1) = .ok (.iaload, 1))
def la_args : Nat → List Nat → Bool
  | _, [] => true
  | pc, k :: r => la_arg pc k && la_args (pc + 6) r
/-- what the law's loop keeps -/
def zLS5 (ad : zAD) (b ao i : Nat) : List (Nat × Value) := [(4, .int (nI i)), (0, .ref b), (1, .ref (ad 0 0 0)), (2, .ref (ad 3 0 0)), (3, .ref ao)]
section La
variable {p : Program} {l : Launch} {e : Env} {s : State} {m : MethodId} {below : List Frame} {meth : Method} {c : Code} {b L i ao : Nat} {xs : Nat → Int32} {D : va_G} {ca : Nat → ClassId} {ad : zAD} {g : zSG} {H : Heap} {locs : List Loc} {cells slots : Nat} {ls : Array Slot} {cJ : ClassId} {f : Nat → Int64}
theorem la_push (C0 : lw_At p s m meth c b L xs) (hL : L ≤ 3072) (hS : va_S (fun q => s.heap.size ≤ q) s.heap H locs) (h0 : ls[0]? = some (.val (.ref b))) (h4 : ls[4]? = some (.val (.int (nI i)))) : ∀ (ks : List Nat) (pc : Nat) (st : List Value), la_args pc ks = true → (∀ k ∈ ks, i + k < L) → W p l e room_1 s m #[Value.ref b] below meth c H locs cells slots (lw_Z below #[Value.ref b] s) (F0 m (pc + 6 * ks.length) ls ((ks.map fun k => Value.int (xs (i + k))).reverse ++ st)) → W p l e room_1 s m #[Value.ref b] below meth c H locs cells slots (lw_Z below #[Value.ref b] s) (F0 m pc ls st) := by
  obtain ⟨hx, hb, hr, hml, hown, hts, hX, hbl, hlocks, hgv⟩ := id C0
  have hbA : ¬ (fun q : Nat => s.heap.size ≤ q) b := Nat.not_le.mpr hbl
  intro ks
  induction ks with
  | nil =>
    intro pc st _ _ kk
    rw [List.length_nil, Nat.mul_zero, Nat.add_zero, List.map_nil, List.reverse_nil, List.nil_append] at kk
    exact kk
  | cons k r ih =>
    intro pc st hok hlt kk
    rw [la_args, Bool.and_eq_true] at hok
    obtain ⟨h1, d7⟩ := hok
    simp only [la_arg, Bool.and_eq_true, decide_eq_true_eq] at h1
    obtain ⟨⟨⟨⟨⟨d1, d2⟩, d3⟩, d4⟩, d5⟩, d6⟩ := h1
    have hk := hlt k (List.mem_cons_self ..)
    refine lv_aload_n hx hb d1 rfl h0 ?_
    refine lv_iload hx hb d2 h4 ?_
    refine lv_iconst (v := nI k) hx hb d3 d4 ?_
    refine lv_iadd hx hb d5 ?_
    rw [nI_add]
    refine va_sld hx hb hX hbl hbA hS (z_vpin hk (by omega)) d6 ?_
    rw [nI_clamp (by omega)]
    refine ih (pc + 6) _ d7 (fun k hk => hlt k (List.mem_cons_of_mem _ hk)) ?_
    rw [List.map_cons, List.reverse_cons, List.append_assoc, List.singleton_append, List.length_cons, show pc + 6 * (r.length + 1) = pc + 6 + 6 * r.length by omega] at kk
    exact kk
/-- behind a wrapper's call -/
theorem la_wrap {mc ms pc : Nat} {st0 : List Value} {A0 : Nat → Prop} {g1 : zSG} {rx : Option zVV ⊕ Nat} {em : Nat → Nat} {cv : Int32 → Int64} {a : Array Value} {Q : State → Prop} {R : Room} {args : Array Value} (hr : vx_Run p l e R s m args below meth c H locs cells slots mc ms (F0 m pc ls st0) [] (zQw D ca ad A0 g1 ao cJ rx em cv a) (fun _ _ _ => False) A0) (hS : va_S A0 s.heap H locs)
    (kk : ∀ (k : Int32) (ad' : zAD) (f' : Nat → Int64) (H1 : Heap) (locs1 : List Loc), zAe ad ad' → zLI D ca ad' A0 g1 H1 → zLO D ad' A0 ao cJ f' H1 → ((∃ v, rx = .inl (some (.inl v)) ∧ k = 0 ∧ f' 0 = cv v) ∨ ∃ x, rx = .inr x ∧ k = nI (em x)) → va_S A0 s.heap H1 locs1 → W p l e R s m args below meth c H1 locs1 (cells + mc) (slots + ms) Q (F0 m (pc + 3) ls [.int k])) : W p l e R s m args below meth c H locs cells slots Q (F0 m pc ls st0) := by
  intro T hT X
  rcases hr T hT X with ⟨v, st₀, t, T', L, h0, X', hL', e1, e2, ⟨⟨k, ad', f', ho, h1, h2, h3, h4⟩, hF⟩, stp⟩ | ⟨q, st₀, t, T', L, E, ce, h0, X', hL', e1, e2, h9, hce, hcv, hcl, stp⟩
  · cases ho
    obtain ⟨k1, k2, k3⟩ := vx_keep h0 e1 hS (fun q _ h => h) (fun q h => h) hL' hF
    obtain ⟨t2, a1, b1⟩ := kk k ad' f' T'.heap (locs ++ L) h1 (by rw [e1]; exact h2) (by rw [e1]; exact h3) h4 k3 T' rfl X'
    exact ⟨t2, stp t2 a1, b1⟩
  · exact h9.elim
/-- behind the answers: an int -/
def la_tailI (b0 : Nat) : Bool := decide (decode code b0 = .ok (.istore 6, 2)) && decide (decode code (b0 + 2) = .ok (.aload_n 2, 1)) && decide (decode code (b0 + 3) = .ok (.invokevirtual 93, 3)) && decide (decode code (b0 + 6) = .ok (.iload 5, 2)) && decide (decode code (b0 + 8) = .ok (.if_icmp .eq 5, 3)) && decide (decode code (b0 + 13) = .ok (.iload 5, 2)) && decide (decode code (b0 + 15) = .ok (.ifCond .ne 15, 3)) && decide (decode code (b0 + 18) = .ok (.aload_n 3, 1)) && decide (decode code (b0 + 19) = .ok (.iconst 0, 1)) && decide (decode code (b0 + 20) = .ok (.laload, 1)) && decide (decode code (b0 + 21) = .ok (.iload 6, 2)) && decide (decode code (b0 + 23) = .ok (.i2l, 1)) && decide (decode code (b0 + 24) = .ok (.lcmp, 1)) && decide (decode code (b0 + 25) = .ok (.ifCond .eq 5, 3)) && decide (decode code (b0 + 30) = .ok (.goto (1642 - ((b0 + 30 : Nat) : Int)), 3))
def la_tailB (b0 : Nat) : Bool := decide (decode code b0 = .ok (.istore 6, 2)) && decide (decode code (b0 + 2) = .ok (.aload_n 2, 1)) && decide (decode code (b0 + 3) = .ok (.invokevirtual 93, 3)) && decide (decode code (b0 + 6) = .ok (.iload 5, 2)) && decide (decode code (b0 + 8) = .ok (.if_icmp .eq 5, 3)) && decide (decode code (b0 + 13) = .ok (.iload 5, 2)) && decide (decode code (b0 + 15) = .ok (.ifCond .ne 22, 3)) && decide (decode code (b0 + 18) = .ok (.aload_n 3, 1)) && decide (decode code (b0 + 19) = .ok (.iconst 0, 1)) && decide (decode code (b0 + 20) = .ok (.laload, 1)) && decide (decode code (b0 + 21) = .ok (.iload 6, 2)) && decide (decode code (b0 + 23) = .ok (.ifCond .eq 7, 3)) && decide (decode code (b0 + 26) = .ok (.lconst 1, 1)) && decide (decode code (b0 + 27) = .ok (.goto 4, 3)) && decide (decode code (b0 + 30) = .ok (.lconst 0, 1)) && decide (decode code (b0 + 31) = .ok (.lcmp, 1)) && decide (decode code (b0 + 32) = .ok (.ifCond .eq 5, 3)) && decide (decode code (b0 + 37) = .ok (.goto (1642 - ((b0 + 37 : Nat) : Int)), 3))
theorem la_thw : (decide (Cond.methodLink RL 93 yX5_thrown ∈ zWS) && decide (Cond.instanceMethod yX5_thrown ∈ zWS) && decide (Cond.selects RX5 yX5_thrown yX5_thrown ∈ zWS) && decide (Cond.initialized RX5 ∈ zWS)) = true ∧ Cond.code yX5_thrown cX5_thrown 1 (some .int) ∈ zWS := ⟨by decide +kernel, by decide +kernel⟩
theorem la_cmp (x : Int64) : lg_cmp x x = 0 := by
  unfold lg_cmp
  simp
theorem la_tail (isB : Bool) (C0 : lw_At p s m meth c b L xs) {b0 : Nat} {k v : Int32} {rx : Option zVV ⊕ Nat} {em : Nat → Nat} (hem : ∀ x, em x ≤ 2) (hok : (bif isB then la_tailB b0 else la_tailI b0) = true) (hK : va_K D zCL (zTL ca) s) (hKJ : va_K D zCL [(cJ, .long)] s) (hE : zE0 ad (fun q => s.heap.size ≤ q) s s.heap) (hS : va_S (fun q => s.heap.size ≤ q) s.heap H locs) (hLI : zLI D ca ad (fun q => s.heap.size ≤ q) g H) (hO : zLO D ad (fun q => s.heap.size ≤ q) ao cJ f H) (hk : (∃ w, rx = .inl (some (.inl w)) ∧ k = 0 ∧ f 0 = (bif isB then zBo w else w.toInt64)) ∨ ∃ x, rx = .inr x ∧ k = nI (em x)) (hrel : q_rel em v ((g 3 0).1 0) rx) (hls : lv_has ls 7 ((5, .int k) :: zLS5 ad b ao i)) (hc : cells ≤ room_1.cells) (hs : slots ≤ room_1.slots)
    (kk : ∀ (H1 : Heap) (locs1 : List Loc) (ls1 : Array Slot), zLI D ca ad (fun q => s.heap.size ≤ q) g H1 → zLO D ad (fun q => s.heap.size ≤ q) ao cJ f H1 → va_S (fun q => s.heap.size ≤ q) s.heap H1 locs1 → lv_has ls1 7 (zLS5 ad b ao i) → W p l e room_1 s m #[Value.ref b] below meth c H1 locs1 cells slots (lw_Z below #[Value.ref b] s) (F0 m 1642 ls1 [])) : W p l e room_1 s m #[Value.ref b] below meth c H locs cells slots (lw_Z below #[Value.ref b] s) (F0 m b0 ls [.int v]) := by
  obtain ⟨hx, hb, hr, hml, hown, hts, hX, hbl, hlocks, hgv⟩ := id C0
  have htz := zWS_of hts
  have hA : ∀ q, s.heap.size ≤ q → (fun q => s.heap.size ≤ q) q := fun _ h => h
  have hthr : (g 3 0).1 0 = k ∧ ((∃ w, rx = .inl (some (.inl w)) ∧ k = 0 ∧ w = v ∧ f 0 = (bif isB then zBo w else w.toInt64)) ∨ ¬ k = 0) := by
    rcases hk with ⟨w, e1, e2, e3⟩ | ⟨x, e1, e2⟩
    · subst e1
      exact ⟨by rw [e2]; exact hrel.1, Or.inl ⟨w, rfl, e2, hrel.2, e3⟩⟩
    · subst e1
      obtain ⟨h1, h2⟩ := hrel
      have h3 := hem x
      refine ⟨by rw [e2]; exact h2, Or.inr fun h4 => ?_⟩
      rw [e2] at h4
      exact h1 ((nI_eq (b := 0) (by omega) (by decide)).mp h4)
  have hth : zF_X5_thrown [.inr (.inl (3, 0, 0))] g = some (.inl (some (.inl ((g 3 0).1 0))), g) := (ze_X5_thrown g).trans (zu_X5_thrown_0 99999 g)
  cases isB with
  | false =>
    simp only [cond_false, la_tailI, Bool.and_eq_true, decide_eq_true_eq] at hok
    obtain ⟨⟨⟨⟨⟨⟨⟨⟨⟨⟨⟨⟨⟨⟨d0, d2⟩, d3⟩, d6⟩, d8⟩, d13⟩, d15⟩, d18⟩, d19⟩, d20⟩, d21⟩, d23⟩, d24⟩, d25⟩, d30⟩ := hok
    refine lv_istore (lv' := (6, .int v) :: (5, .int k) :: zLS5 ad b ao i) hx hb d0 hls (by decide) rfl (fun ls hls => ?_)
    refine lv_aload_n hx hb d2 rfl (lv_at hls 5 rfl) ?_
    refine zl_run (zl_rV (cn := 3) (i := 0) (n := 0) (vs := []) (rest := []) (C := RX5) (zt_X5_thrown l) la_thw.1 la_thw.2 rfl (by decide +kernel) ⟨Nat.le_of_ble_eq_true rfl, Nat.le_of_ble_eq_true rfl⟩ rfl (by decide) (by decide) ⟨hx, hb, hml, hown, htz⟩ hK hE hA hS hLI hth rfl rfl (Nat.le_of_ble_eq_true rfl) hls.1 d3 ⟨hc, hs⟩) hA hS hLI (fun vv hvv _ H1 locs1 hL1 hS1 hk1 => ?_) (fun k hk => nomatch hk)
    cases hvv
    have hO1 := zw_O hO hLI hk1 (fun _ _ _ _ => rfl) (fun q _ => Or.inl rfl)
    show W p l e room_1 s m _ below meth c H1 locs1 cells slots _ (F0 m (b0 + 6) ls (.int ((g 3 0).1 0) :: []))
    refine lv_iload hx hb d6 (lv_at hls 1 rfl) ?_
    refine lv_icmp_eq (tgt := b0 + 13) hx hb d8 (by omega) (fun _ => ?_) (fun b1 => absurd hthr.1 b1)
    refine lv_iload hx hb d13 (lv_at hls 1 rfl) ?_
    have fin : W p l e room_1 s m #[Value.ref b] below meth c H1 locs1 cells slots (lw_Z below #[Value.ref b] s) (F0 m (b0 + 30) ls []) := lv_goto (tgt := 1642) hx hb d30 (by omega) (kk H1 locs1 ls hL1 hO1 hS1 (lv_sub hls [2, 3, 4, 5, 6] rfl))
    refine lv_if_ne (tgt := b0 + 30) hx hb d15 (by omega) (fun _ => fin) (fun b1 => ?_)
    rcases hthr.2 with ⟨w, -, -, ew, e3⟩ | h9
    · have e3 : f 0 = w.toInt64 := e3
      refine lv_aload_n hx hb d18 rfl (lv_at hls 6 rfl) ?_
      refine lv_iconst (v := 0) hx hb d19 rfl ?_
      refine va_lald hx hb hKJ (z_one hO1.1) 0 0 rfl rfl (z_vpin (i := 0) (by decide) (by decide)) d20 ?_
      refine lv_iload hx hb d21 (lv_at hls 0 rfl) ?_
      refine lv_i2l (v := v.toInt64) hx hb d23 rfl ?_
      refine W.lcmp hx hb d24 ?_
      rw [show f (Int32.toNatClampNeg 0) = v.toInt64 from by rw [show (Int32.toNatClampNeg 0) = 0 by decide, e3, ew], la_cmp]
      exact lv_if_eq (tgt := b0 + 30) hx hb d25 (by omega) (fun _ => fin) (fun b2 => absurd rfl b2)
    · exact absurd b1 h9
  | true =>
    simp only [cond_true, la_tailB, Bool.and_eq_true, decide_eq_true_eq] at hok
    obtain ⟨⟨⟨⟨⟨⟨⟨⟨⟨⟨⟨⟨⟨⟨⟨⟨⟨d0, d2⟩, d3⟩, d6⟩, d8⟩, d13⟩, d15⟩, d18⟩, d19⟩, d20⟩, d21⟩, d23⟩, d26⟩, d27⟩, d30⟩, d31⟩, d32⟩, d37⟩ := hok
    refine lv_istore (lv' := (6, .int v) :: (5, .int k) :: zLS5 ad b ao i) hx hb d0 hls (by decide) rfl (fun ls hls => ?_)
    refine lv_aload_n hx hb d2 rfl (lv_at hls 5 rfl) ?_
    refine zl_run (zl_rV (cn := 3) (i := 0) (n := 0) (vs := []) (rest := []) (C := RX5) (zt_X5_thrown l) la_thw.1 la_thw.2 rfl (by decide +kernel) ⟨Nat.le_of_ble_eq_true rfl, Nat.le_of_ble_eq_true rfl⟩ rfl (by decide) (by decide) ⟨hx, hb, hml, hown, htz⟩ hK hE hA hS hLI hth rfl rfl (Nat.le_of_ble_eq_true rfl) hls.1 d3 ⟨hc, hs⟩) hA hS hLI (fun vv hvv _ H1 locs1 hL1 hS1 hk1 => ?_) (fun k hk => nomatch hk)
    cases hvv
    have hO1 := zw_O hO hLI hk1 (fun _ _ _ _ => rfl) (fun q _ => Or.inl rfl)
    show W p l e room_1 s m _ below meth c H1 locs1 cells slots _ (F0 m (b0 + 6) ls (.int ((g 3 0).1 0) :: []))
    refine lv_iload hx hb d6 (lv_at hls 1 rfl) ?_
    refine lv_icmp_eq (tgt := b0 + 13) hx hb d8 (by omega) (fun _ => ?_) (fun b1 => absurd hthr.1 b1)
    refine lv_iload hx hb d13 (lv_at hls 1 rfl) ?_
    have fin : W p l e room_1 s m #[Value.ref b] below meth c H1 locs1 cells slots (lw_Z below #[Value.ref b] s) (F0 m (b0 + 37) ls []) := lv_goto (tgt := 1642) hx hb d37 (by omega) (kk H1 locs1 ls hL1 hO1 hS1 (lv_sub hls [2, 3, 4, 5, 6] rfl))
    refine lv_if_ne (tgt := b0 + 37) hx hb d15 (by omega) (fun _ => fin) (fun b1 => ?_)
    rcases hthr.2 with ⟨w, -, -, ew, e3⟩ | h9
    · have e3 : f 0 = zBo w := e3
      refine lv_aload_n hx hb d18 rfl (lv_at hls 6 rfl) ?_
      refine lv_iconst (v := 0) hx hb d19 rfl ?_
      refine va_lald hx hb hKJ (z_one hO1.1) 0 0 rfl rfl (z_vpin (i := 0) (by decide) (by decide)) d20 ?_
      refine lv_iload hx hb d21 (lv_at hls 0 rfl) ?_
      have ef : f (Int32.toNatClampNeg 0) = zBo v := by rw [show (Int32.toNatClampNeg 0) = 0 by decide, e3, ew]
      rw [ef]
      have cmp : W p l e room_1 s m #[Value.ref b] below meth c H1 locs1 cells slots (lw_Z below #[Value.ref b] s) (F0 m (b0 + 31) ls (.long (zBo v) :: .long (zBo v) :: [])) := by
        refine W.lcmp hx hb d31 ?_
        rw [la_cmp]
        exact lv_if_eq (tgt := b0 + 37) hx hb d32 (by omega) (fun _ => fin) (fun b2 => absurd rfl b2)
      refine lv_if_eq (tgt := b0 + 30) hx hb d23 (by omega) (fun b2 => ?_) (fun b2 => ?_)
      · refine lv_lconst hx hb d30 rfl ?_
        rw [show (Int64.ofNat (((0 : Fin 2)) : Nat)) = zBo v from (if_pos b2).symm]
        exact cmp
      · refine lv_lconst hx hb d26 rfl ?_
        refine lv_goto (tgt := b0 + 31) hx hb d27 (by omega) ?_
        rw [show (Int64.ofNat (((1 : Fin 2)) : Nat)) = zBo v from (if_neg b2).symm]
        exact cmp
    · exact absurd b1 h9
end La
