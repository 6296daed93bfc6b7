/-! ===== the wrappers of the law: what they ask and give ===== -/
/-- the law's row of one long -/
def zLO (D : va_G) (ad : zAD) (A : Nat → Prop) (ao : Nat) (cJ : ClassId) (f : Nat → Int64) (H : Heap) : Prop := va_at D zCL (ao, .inl (cJ, 1, .inr (.inl f))) H ∧ A ao ∧ (∀ x ∈ zWI, ao ≠ z_aq ad x) ∧ ∀ q ∈ zSI, ao ≠ z_aq ad q
def zPw (D : va_G) (ca : Nat → ClassId) (ad : zAD) (A : Nat → Prop) (g : zSG) (ao : Nat) (cJ : ClassId) (f : Nat → Int64) (U : State) : Prop := va_K D zCL (zTL ca) U ∧ va_K D zCL [(cJ, .long)] U ∧ zLI D ca ad A g U.heap ∧ zLO D ad A ao cJ f U.heap ∧ (∀ q, U.heap.size ≤ q → A q) ∧ zE0 ad A U U.heap ∧ va_Nc (zEx 0) (zEx 2) U ∧ va_Nc (zEx 0) (zEx 1) U
theorem zPw_blind {D : va_G} {ca : Nat → ClassId} {ad : zAD} {A : Nat → Prop} {g : zSG} {ao : Nat} {cJ : ClassId} {f : Nat → Int64} {vs : List Value} : FrameBlind (va_Pc vs (zPw D ca ad A g ao cJ f)) := by
  intro a U g' mk h
  obtain ⟨h1, h2, h3, h4, h5, h6, h7, h8, h9⟩ := h
  exact ⟨h1, va_K.moved (u := U) (U := U.calling g' mk a) (Vm.Alike.refl U.vm) h2, va_K.moved (u := U) (U := U.calling g' mk a) (Vm.Alike.refl U.vm) h3, h4, h5, h6, h7.same rfl, h8.moved (u := U) (U := U.calling g' mk a) (Vm.Alike.refl U.vm), h9.moved (u := U) (U := U.calling g' mk a) (Vm.Alike.refl U.vm)⟩
def zBo (v : Int32) : Int64 := if v = 0 then 0 else 1
def zQw (D : va_G) (ca : Nat → ClassId) (ad : zAD) (A : Nat → Prop) (g1 : zSG) (ao : Nat) (cJ : ClassId) (rx : Option zVV ⊕ Nat) (em : Nat → Nat) (cv : Int32 → Int64) : Array Value → State → Outcome → State → Prop := fun _ st o t => (∃ (k : Int32) (ad' : zAD) (f' : Nat → Int64), o = .returned (some (.int k)) ∧ zAe ad ad' ∧ zLI D ca ad' A g1 t.heap ∧ zLO D ad' A ao cJ f' t.heap ∧ ((∃ v, rx = .inl (some (.inl v)) ∧ k = 0 ∧ f' 0 = cv v) ∨ ∃ x, rx = .inr x ∧ k = nI (em x))) ∧ va_F A st t
def zGood (em : Nat → Nat) : Option zVV ⊕ Nat → Prop
  | .inl (some (.inl _)) => True
  | .inr k => em k ≠ 0
  | _ => False
theorem zGood_v {em : Nat → Nat} {rx : Option zVV ⊕ Nat} {v : Option zVV} (h : zGood em rx) (e : rx = .inl v) : ∃ x : Int32, v = some (.inl x) := by
  subst e
  match v, h with
  | some (.inl x), _ => exact ⟨x, rfl⟩
theorem zGood_x {em : Nat → Nat} {rx : Option zVV ⊕ Nat} {k : Nat} (h : zGood em rx) (e : rx = .inr k) : em k ≠ 0 := by
  subst e
  exact h
theorem q_eI_ne {k : Nat} (h : q_eI k ≠ 0) : k = 0 := by
  unfold q_eI at h
  by_cases e : k = 0
  · exact e
  · rw [if_neg e] at h
    exact absurd rfl h
theorem q_eX_ne {k : Nat} (h : q_eX k ≠ 0) : k = 1 := by
  unfold q_eX at h
  by_cases e : k = 1
  · exact e
  · rw [if_neg e] at h
    exact absurd rfl h
theorem q_eN_ne {k : Nat} (h : q_eN k ≠ 0) : k = 2 := by
  unfold q_eN at h
  by_cases e : k = 2
  · exact e
  · rw [if_neg e] at h
    exact absurd rfl h
theorem q_eNI_ne {k : Nat} (h : q_eNI k ≠ 0) : k = 2 ∨ k = 0 := by
  unfold q_eNI at h
  by_cases e : k = 2
  · exact Or.inl e
  · by_cases e0 : k = 0
    · exact Or.inr e0
    · rw [if_neg e, if_neg e0] at h
      exact absurd rfl h
theorem q_eXI_ne {k : Nat} (h : q_eXI k ≠ 0) : k = 1 ∨ k = 0 := by
  unfold q_eXI at h
  by_cases e : k = 1
  · exact Or.inl e
  · by_cases e0 : k = 0
    · exact Or.inr e0
    · rw [if_neg e, if_neg e0] at h
      exact absurd rfl h
theorem zE0_cast {ad : zAD} {A : Nat → Prop} {U : State} {H : Heap} {args : Array Value} (h : zE0 ad A U H) (x : Nat) (hx : x < 3) : (Cond.castable (zEx x) (zEx x)).before args U = true := by
  obtain ⟨-, -, -, -, -, -, -, -, h11⟩ := h
  have key : ∀ x, x < 3 → (zEx x, zEx x) ∈ zCast := by decide +kernel
  exact (h11 _ (key x hx)).use rfl
section Wr
variable {p : Program} {l : Launch} {e : Env} {R : Room} {s : State} {m : MethodId} {args : Array Value} {below : List Frame} {meth : Method} {c : Code} {D : va_G} {ca : Nat → ClassId} {ad ad' : zAD} {A : Nat → Prop} {g g1 : zSG} {H H1 : Heap} {locs : List Loc} {cells slots pc : Nat} {ls : Array Slot} {rest st0 : List Value} {Q : State → Prop} {cc : ByteArray} {own : String} {nL ao : Nat} {cJ : ClassId} {f : Nat → Int64} {rx : Option zVV ⊕ Nat} {em : Nat → Nat} {cv : Int32 → Int64} {XC : String → State → State → Prop}
theorem zw_O (hO : zLO D ad A ao cJ f H) (hL : zLI D ca ad A g H) (hk : ∀ q : Nat, q < H.size → ¬ zAw ad H.size q → H1[q]? = H[q]?) (hae : zAe ad ad') (hnw : ∀ q ∈ zSI, z_aq ad' q = z_aq ad q ∨ H.size ≤ z_aq ad' q) : zLO D ad' A ao cJ f H1 := by
  obtain ⟨h1, h2, h3, h4⟩ := hO
  have hlt : ao < H.size := h1.lt
  refine ⟨h1.kept (hk ao hlt ?_), h2, fun x hx => ?_, fun q hq => ?_⟩
  · rintro (⟨x, hx, he⟩ | he)
    · exact h3 x hx he
    · omega
  · rw [z_aq_e hae hx]
    exact h3 x hx
  · rcases hnw q hq with he | he
    · rw [he]
      exact h4 q hq
    · omega
theorem zw_last {x : Int64} (hx : p.tables.exec = Jvm.exec) (hb : c.code = cc) (hKJ : va_K D zCL [(cJ, .long)] s) (hO : va_at D zCL (ao, .inl (cJ, 1, .inr (.inl f))) H) (hA0 : A ao) (hS : va_S A s.heap H locs) (hd : decode cc pc = .ok (.lastore, 1))
    (kk : ∀ (H1 : Heap) (locs1 : List Loc), va_at D zCL (ao, .inl (cJ, 1, .inr (.inl (vp_updL f 0 x)))) H1 → (∀ q : Nat, q ≠ ao → H1[q]? = H[q]?) → va_S A s.heap H1 locs1 → W p l e R s m args below meth c H1 locs1 cells slots Q (F0 m (pc + 1) ls rest)) : W p l e R s m args below meth c H locs cells slots Q (F0 m pc ls (.long x :: .int 0 :: .ref ao :: rest)) := by
  refine W.last hx hb hO ((hKJ.2 0 _ rfl).1 1 (fun j => .long (f j))) (fun q => by cases q) (by show ¬ ((0 : Int32) < 0 ∨ (arrV _ _ _).slots.size ≤ _); rw [arrV_size]; exact (by decide : ¬ ((0 : Int32) < 0 ∨ 1 ≤ Int32.toNatClampNeg 0))) rfl rfl hd fun H1 e z oq => ?_
  refine kk H1 _ ?_ oq (hS.put z oq hA0)
  show H1[ao]? = some (vp_cell _ _)
  rw [e, vp_cell_l, vp_cell_l, arrV_store]
  congr 2
  funext q
  unfold updV vp_updL
  by_cases hq : q = 0
  · subst hq
    rfl
  · have h0 : (0 : Int32).toNatClampNeg = 0 := by decide
    rw [h0, if_neg hq]
    dsimp only
    rw [if_neg hq]
theorem zw_LI (hL : zLI D ca ad A g H) (hO : zLO D ad A ao cJ f H) (oq : ∀ q : Nat, q ≠ ao → H1[q]? = H[q]?) : zLI D ca ad A g H1 := by
  refine ⟨⟨hL.1.1.kept (fun k q hq => ?_), hL.1.2⟩, hL.2.1.kept (fun k q hq => ?_), hL.2.2⟩
  · obtain ⟨x, hx, ex⟩ := z_wlmem hq
    rw [ex]
    exact oq _ (fun he => hO.2.2.1 x hx he.symm)
  · obtain ⟨x, hx, ex⟩ := z_slmem hq
    rw [ex]
    exact oq _ (fun he => hO.2.2.2 x hx he.symm)
theorem zw_fin {a en : Nat} {off : Int} {v : Int32} (hx : p.tables.exec = Jvm.exec) (hb : c.code = cc) (hr : meth.sig.returnType = some .int) (hlocks : meth.locks = false) (hKJ : va_K D zCL [(cJ, .long)] s) (hL : zLI D ca ad' A g1 H) (hO : zLO D ad' A ao cJ f H) (hS : va_S A s.heap H locs) (hae : zAe ad ad') (hrx : rx = .inl (some (.inl v))) (hc : cells ≤ R.cells) (hs : slots ≤ R.slots) (d1 : decode cc a = .ok (.lastore, 1)) (d2 : decode cc (a + 1) = .ok (.goto off, 3)) (ht : ((a + 1 : Nat) : Int) + off = (en : Int)) (d3 : decode cc en = .ok (.iconst 0, 1)) (d4 : decode cc (en + 1) = .ok (.ireturn, 1)) : W p l e R s m args below meth c H locs cells slots (vx_MQ below (zQw D ca ad A g1 ao cJ rx em cv) XC args s R.cells R.slots A) (F0 m a ls (.long (cv v) :: .int 0 :: .ref ao :: [])) := by
  refine zw_last hx hb hKJ hO.1 hO.2.1 hS d1 (fun H1 locs1 hO1 oq hS1 => ?_)
  refine lv_goto (tgt := en) hx hb d2 ht ?_
  refine lv_iconst (v := 0) hx hb d3 rfl ?_
  refine W.widen (k := R.cells) (n := R.slots) hc hs ?_
  refine vx_ret ?_
  exact W.iret hx hb hr (fun t ht hW => ⟨⟨0, ad', vp_updL f 0 (cv v), rfl, hae, by rw [ht]; exact zw_LI hL hO oq, by rw [ht]; exact ⟨hO1, hO.2⟩, Or.inl ⟨v, hrx, rfl, if_pos rfl⟩⟩, hS1.F ht⟩) hS1.2.2 d4 hlocks
theorem zw_exc {k : Nat} {j : Int32} (hx : p.tables.exec = Jvm.exec) (hb : c.code = cc) (hr : meth.sig.returnType = some .int) (hlocks : meth.locks = false) (hL : zLI D ca ad A g1 H) (hO : zLO D ad A ao cJ f H) (hS : va_S A s.heap H locs) (hrx : rx = .inr k) (hj : j = nI (em k)) (hc : cells ≤ R.cells) (hs : slots ≤ R.slots) (d4 : decode cc pc = .ok (.ireturn, 1)) : W p l e R s m args below meth c H locs cells slots (vx_MQ below (zQw D ca ad A g1 ao cJ rx em cv) XC args s R.cells R.slots A) (F0 m pc ls (.int j :: [])) := by
  refine W.widen (k := R.cells) (n := R.slots) hc hs ?_
  refine vx_ret ?_
  exact W.iret hx hb hr (fun t ht hW => ⟨⟨j, ad, f, rfl, fun _ _ _ _ => rfl, by rw [ht]; exact hL, by rw [ht]; exact hO, Or.inr ⟨k, hrx, hj⟩⟩, hS.F ht⟩) hS.2.2 d4 hlocks
/-- a call of text -/
theorem zl_rT {j : Nat} {x1 x2 x3 : Int32} {r : zRR} (hM : ∀ (D : va_G) (ca : Nat → ClassId) (ad : zAD) (A : Nat → Prop) (g : zSG) (x1 x2 x3 : Int32) (r : zRR), zX_text [.inr (.inl (0, 0, 0)), .inl x1, .inl x2, .inl x3] g = some r → vx_Met l yX4_text (.code yX4_text cX4_text 5 (some .int) :: zWS) (zrm 75 5 420) (zPc D ca ad A g [.inr (.inl (0, 0, 0)), .inl x1, .inl x2, .inl x3]) (zQu D ca ad A g r) (zX D ca ad A g r) 5 420 A) (hw : (decide (Cond.methodLink own j yX4_text ∈ zWS) && decide (Cond.instanceMethod yX4_text ∈ zWS) && decide (Cond.selects RX4 yX4_text yX4_text ∈ zWS) && decide (Cond.initialized RX4 ∈ zWS)) = true) (hcode : Cond.code yX4_text cX4_text 5 (some .int) ∈ zWS) (hR : 76 ≤ R.frames ∧ 3024 ≤ R.locals)
    (Cf : CallFix p m c cc nL s args zWS own) (hK : va_K D zCL (zTL ca) s) (hE : zE0 ad A s s.heap) (hA : ∀ q, s.heap.size ≤ q → A q) (hS : va_S A s.heap H locs) (hL : zLI D ca ad A g H) (hF : zX_text (.inr (.inl (0, 0, 0)) :: [.inl x1, .inl x2, .inl x3]) g = some r) (hst : st0 = ([.int x1, .int x2, .int x3] : List Value).reverse ++ .ref (ad 0 0 0) :: rest) (hrest : (rest.map fun v => v.category).sum ≤ 8) (hsz : ls.size = nL) (hdec : decode cc pc = .ok (.invokevirtual j, 3)) (hroom : cells + 5 ≤ R.cells ∧ slots + 420 ≤ R.slots) :
    vx_Run p l e R s m args below meth c H locs cells slots 5 420 (F0 m pc ls st0) rest (zQu D ca ad (zAw ad H.size) g r (Value.ref (ad 0 0 0) :: [.int x1, .int x2, .int x3]).toArray) (zX D ca ad (zAw ad H.size) g r) (zAw ad H.size) := by
  obtain ⟨hx, hb, hml, hown, hts⟩ := Cf
  simp only [Bool.and_eq_true, decide_eq_true_eq] at hw
  obtain ⟨⟨⟨w1, w2⟩, w3⟩, w4⟩ := hw
  have hM := hM D ca ad (zAw ad H.size) g x1 x2 x3 r hF
  refine vx_runV (As := [.int x1, .int x2, .int x3]) (n := 3) (cc := cc) (nL := nL) (Ts := zWS) (own := own) (C := RX4) (b := ad 0 0 0) ⟨hx, hb, hml, hown, hts⟩ hM ⟨callB_of 3 hts (z_goodV (own := own) (C := RX4) (j := j) hcode) rfl rfl rfl (hts _ w4) (hts _ w1) (by decide +kernel) ⟨hR.1, by show 8 + (5 + 11) + 40 * 75 ≤ R.locals; omega⟩, hts _ w2, hts _ w3⟩ ⟨zPc_blind, ?_, fun U hU hW => zl_pre (vs := [.inr (.inl (0, 0, 0)), .inl x1, .inl x2, .inl x3]) hK hE hA hS hL U hU hW⟩ rfl rfl hsz hst (lv_room hrest) hdec hroom
  exact va_recv hK (z_one (z_atW (zl_HP hL) (zWI_obj 0 (by decide) 0 (by decide)))) (q := (RX4, TX4, 13)) (ci := 0) (q0 := 0) rfl rfl
end Wr
