/-! ===== the constructor of ReplayHouse ===== -/
abbrev zRf (f : Nat → Option Nat) : (Nat → Int32) ⊕ (Nat → Int64) ⊕ (Nat → UInt32) ⊕ (Nat → UInt64) ⊕ (Nat → Option Nat) := .inr (.inr (.inr (.inr f)))
theorem zn_upd2 {D : va_G} {A : Nat → Prop} {ws wt : va_W} {H H1 : Heap} {h0 : Nat} {e0 e1 : va_E} (hP : va_P D zCL (ws ++ (h0, e0) :: wt) H) (hD : va_D A (ws ++ (h0, e0) :: wt)) (hk : ∀ q : Nat, q < H.size → ¬ (q = h0 ∨ H.size ≤ q) → H1[q]? = H[q]?) (hn : va_P D zCL [(h0, e1)] H1) : va_P D zCL (ws ++ (h0, e1) :: wt) H1 ∧ va_D A (ws ++ (h0, e1) :: wt) := by
  have h := zn_upd (k0 := ws.length) hP hD (by rw [List.getElem?_append_right (Nat.le_refl _), Nat.sub_self]; rfl) hk hn
  rw [List.set_append_right _ _ (Nat.le_refl _), Nat.sub_self] at h
  exact h
theorem z_vpin {i n : Nat} (h : i < n) (hn : n < 2 ^ 31) : vp_in (nI i) n := z_inb_iff.mp (q_inb' h hn)
section Hs
variable {p : Program} {l : Launch} {e : Env} {R : Room} {s : State} {m : MethodId} {args : Array Value} {below : List Frame} {meth : Method} {c : Code} {D : va_G} {ca : Nat → ClassId} {A : Nat → Prop} {Q : State → Prop} {h0 sc sq : Nat} {cells slots : Nat}
theorem zh_w : (decide (Cond.fieldLink RX4 42 (TX4 4).1 (TX4 4).2.1 (TX4 4).2.2.1 ∈ zWS) && decide (Cond.fieldLink RX4 48 (TX4 7).1 (TX4 7).2.1 (TX4 7).2.2.1 ∈ zWS) && decide (Cond.fieldLink RX4 52 (TX4 8).1 (TX4 8).2.1 (TX4 8).2.2.1 ∈ zWS)) = true := by decide +kernel
/-- the first loop: every slot holds the empty script -/
theorem zh_loop1 (hx : p.tables.exec = Jvm.exec) (hb : c.code = cX4_init) (hts : ∀ w ∈ zWS, w.before args s = true) (hown : s.vm.findClass RX4 = some m.cls) (hK : va_K D zCL (zTL ca) s) {fs vs : List Value} (hf4 : fs[4]? = some (.ref sq)) (wt : va_W)
    (kk : ∀ (H1 : Heap) (locs1 : List Loc) (ls : Array Slot), va_P D zCL ((h0, .inr (0, fs)) :: (sc, .inr (5, vs)) :: (sq, .inl (ca 3, 8, zRf (fun _ => some sc))) :: wt) H1 → va_D A ((h0, .inr (0, fs)) :: (sc, .inr (5, vs)) :: (sq, .inl (ca 3, 8, zRf (fun _ => some sc))) :: wt) → va_S A s.heap H1 locs1 → lv_has ls 3 [(0, .ref h0), (1, .ref sc)] → W p l e R s m args below meth c H1 locs1 cells slots Q (F0 m 104 ls [])) :
    ∀ (n i : Nat) (H : Heap) (locs : List Loc) (ls : Array Slot), i + n = 8 → va_P D zCL ((h0, .inr (0, fs)) :: (sc, .inr (5, vs)) :: (sq, .inl (ca 3, 8, zRf (fun j => if j < i then some sc else none))) :: wt) H → va_D A ((h0, .inr (0, fs)) :: (sc, .inr (5, vs)) :: (sq, .inl (ca 3, 8, zRf (fun j => if j < i then some sc else none))) :: wt) → va_S A s.heap H locs → lv_has ls 3 [(2, .int (nI i)), (0, .ref h0), (1, .ref sc)] → W p l e R s m args below meth c H locs cells slots Q (F0 m 82 ls []) := by
  have hw := zh_w
  simp only [Bool.and_eq_true, decide_eq_true_eq] at hw
  obtain ⟨⟨w1, w2⟩, w3⟩ := hw
  intro n
  induction n with
  | zero =>
    intro i H locs ls hi hP hD hS hl
    refine lv_iload_n hx hb (by decide +kernel : decode cX4_init 82 = .ok (.iload_n 2, 1)) rfl (lv_at hl 0 rfl) ?_
    refine lv_aload_n hx hb (by decide +kernel : decode cX4_init 83 = .ok (.aload_n 0, 1)) rfl (lv_at hl 1 rfl) ?_
    refine va_get (D := D) (ci := 0) (v := .ref sq) (C := RX4) (T := TX4) (N := 13) hx hb hts (z_inFw (c := 0) rfl) hown hK hP 0 rfl rfl 4 (by decide) (hts _ w1) (fun _ h => h) hf4 (by decide +kernel : decode cX4_init 84 = .ok (.getfield 42, 3)) ?_
    refine va_alen (ty := .object RX3) (v := 8) hx hb hK hP 2 3 rfl rfl rfl (by decide +kernel : decode cX4_init 87 = .ok (.arraylength, 1)) ?_
    refine lv_icmp_ge (tgt := 104) hx hb (by decide +kernel : decode cX4_init 88 = .ok (.if_icmp .ge 16, 3)) (by decide) (fun c1 => ?_) (fun c1 => ?_)
    · have h := zn_cg (k := 2) (f' := fun _ => some sc) hP hD rfl (fun j hj => by rw [if_pos (by omega)])
      exact kk H locs ls h.1 h.2 hS (lv_sub hl [1, 2] rfl)
    · exact absurd (show (8 : Int32) ≤ nI i from nI_le (a := 8) (by omega) (by omega)) c1
  | succ n ih =>
    intro i H locs ls hi hP hD hS hl
    refine lv_iload_n hx hb (by decide +kernel : decode cX4_init 82 = .ok (.iload_n 2, 1)) rfl (lv_at hl 0 rfl) ?_
    refine lv_aload_n hx hb (by decide +kernel : decode cX4_init 83 = .ok (.aload_n 0, 1)) rfl (lv_at hl 1 rfl) ?_
    refine va_get (D := D) (ci := 0) (v := .ref sq) (C := RX4) (T := TX4) (N := 13) hx hb hts (z_inFw (c := 0) rfl) hown hK hP 0 rfl rfl 4 (by decide) (hts _ w1) (fun _ h => h) hf4 (by decide +kernel : decode cX4_init 84 = .ok (.getfield 42, 3)) ?_
    refine va_alen (ty := .object RX3) (v := 8) hx hb hK hP 2 3 rfl rfl rfl (by decide +kernel : decode cX4_init 87 = .ok (.arraylength, 1)) ?_
    refine lv_icmp_ge (tgt := 104) hx hb (by decide +kernel : decode cX4_init 88 = .ok (.if_icmp .ge 16, 3)) (by decide) (fun c1 => ?_) (fun c1 => ?_)
    · exact absurd c1 (show ¬ (8 : Int32) ≤ nI i from nI_ge (b := 8) (by omega) (by decide))
    · refine lv_aload_n hx hb (by decide +kernel : decode cX4_init 91 = .ok (.aload_n 0, 1)) rfl (lv_at hl 1 rfl) ?_
      refine va_get (D := D) (ci := 0) (v := .ref sq) (C := RX4) (T := TX4) (N := 13) hx hb hts (z_inFw (c := 0) rfl) hown hK hP 0 rfl rfl 4 (by decide) (hts _ w1) (fun _ h => h) hf4 (by decide +kernel : decode cX4_init 92 = .ok (.getfield 42, 3)) ?_
      refine lv_iload_n hx hb (by decide +kernel : decode cX4_init 95 = .ok (.iload_n 2, 1)) rfl (lv_at hl 0 rfl) ?_
      refine lv_aload_n hx hb (by decide +kernel : decode cX4_init 96 = .ok (.aload_n 1, 1)) rfl (lv_at hl 2 rfl) ?_
      refine va_astq (r := (RX3, TX3, 2)) hx hb hK hP hD hS 2 3 1 5 rfl rfl rfl rfl (z_vpin (show i < 8 by omega) (by decide)) (by decide +kernel : decode cX4_init 97 = .ok (.aastore, 1)) (fun H1 locs1 hP1 hD1 hS1 => ?_)
      have ef : va_up (fun j => if j < i then some sc else none) (nI i).toNatClampNeg (some sc) = fun j => if j < i + 1 then some sc else none := by
        funext j
        rw [nI_clamp (by omega)]
        unfold va_up
        by_cases h : j = i
        · rw [if_pos h, if_pos (by omega)]
        · rw [if_neg h]
          dsimp only
          by_cases h2 : j < i
          · rw [if_pos h2, if_pos (by omega)]
          · rw [if_neg h2, if_neg (by omega)]
      rw [ef] at hP1 hD1
      refine lv_iinc (v := nI (i + 1)) (lv' := [(2, .int (nI (i + 1))), (0, .ref h0), (1, .ref sc)]) hx hb (by decide +kernel : decode cX4_init 98 = .ok (.iinc 2 1, 3)) hl (k := 0) rfl (nI_1 i) (by decide) rfl (fun ls hl => ?_)
      refine lv_goto (tgt := 82) hx hb (by decide +kernel : decode cX4_init 101 = .ok (.goto (-19), 3)) (by decide) ?_
      exact ih (i + 1) H1 locs1 ls (by omega) hP1 hD1 hS1 hl
theorem zh_w2 : (decide (Cond.classLink RX4 46 RX2 ∈ zWS) && decide (Cond.instantiable RX2 18 ∈ zWS) && decide (Cond.initialized RX2 ∈ zWS) && decide (Cond.instanceMethod yX2_init ∈ zWS) && decide (Cond.code yX2_init cX2_init 1 none ∈ zWS)) = true := by decide +kernel
/-- a turn of the second loop -/
theorem zh_turn (hx : p.tables.exec = Jvm.exec) (hb : c.code = cX4_init) (hml : c.maxLocals = 3) (hts : ∀ w ∈ zWS, w.before args s = true) (hown : s.vm.findClass RX4 = some m.cls) (hK : va_K D zCL (zTL ca) s) (hA : ∀ q, s.heap.size ≤ q → A q) (hl2 : va_Nw (.methodLinkNest RX4 55 yX2_init RX4) s) (hR : 2 ≤ R.frames ∧ 60 ≤ R.locals) {fs : List Value} {wq tq i : Nat} (hi : i < 2) (hf7 : fs[7]? = some (.ref wq)) (hf8 : fs[8]? = some (.ref tq)) {f g : Nat → Option Nat} (wt : va_W) {H : Heap} {locs : List Loc} {ls : Array Slot} (hP : va_P D zCL ((h0, .inr (0, fs)) :: (wq, .inl (ca 2, 2, zRf f)) :: (tq, .inl (ca 2, 2, zRf g)) :: wt) H) (hD : va_D A ((h0, .inr (0, fs)) :: (wq, .inl (ca 2, 2, zRf f)) :: (tq, .inl (ca 2, 2, zRf g)) :: wt)) (hS : va_S A s.heap H locs) (hl : lv_has ls 3 [(2, .int (nI i)), (0, .ref h0)]) (hcc : cells + 24 ≤ R.cells) (hss : slots + 952 ≤ R.slots)
    (kk : ∀ (a b : Nat → Nat) (H1 : Heap) (locs1 : List Loc) (ls : Array Slot), va_P D zCL ((h0, .inr (0, fs)) :: (wq, .inl (ca 2, 2, zRf (va_up f i (some (a 0))))) :: (tq, .inl (ca 2, 2, zRf (va_up g i (some (b 0))))) :: ((wt ++ zOb ca 4 a) ++ zOb ca 4 b)) H1 → va_D A ((h0, .inr (0, fs)) :: (wq, .inl (ca 2, 2, zRf (va_up f i (some (a 0))))) :: (tq, .inl (ca 2, 2, zRf (va_up g i (some (b 0))))) :: ((wt ++ zOb ca 4 a) ++ zOb ca 4 b)) → va_S A s.heap H1 locs1 → lv_has ls 3 [(2, .int (nI (i + 1))), (0, .ref h0)] → W p l e R s m args below meth c H1 locs1 (cells + 24) (slots + 952) Q (F0 m 122 ls [])) : W p l e R s m args below meth c H locs cells slots Q (F0 m 122 ls []) := by
  have hw := zh_w
  simp only [Bool.and_eq_true, decide_eq_true_eq] at hw
  obtain ⟨⟨w1, w2⟩, w3⟩ := hw
  have hcl : (nI i).toNatClampNeg = i := nI_clamp (by omega)
  refine lv_iload_n hx hb (by decide +kernel : decode cX4_init 122 = .ok (.iload_n 2, 1)) rfl (lv_at hl 0 rfl) ?_
  refine lv_iconst (v := 2) hx hb (by decide +kernel : decode cX4_init 123 = .ok (.iconst 2, 1)) rfl ?_
  refine lv_icmp_ge (tgt := 159) hx hb (by decide +kernel : decode cX4_init 124 = .ok (.if_icmp .ge 35, 3)) (by decide) (fun c1 => absurd c1 (show ¬ (2 : Int32) ≤ nI i from nI_ge (b := 2) hi (by decide))) (fun _ => ?_)
  refine lv_aload_n hx hb (by decide +kernel : decode cX4_init 127 = .ok (.aload_n 0, 1)) rfl (lv_at hl 1 rfl) ?_
  refine va_get (D := D) (ci := 0) (v := .ref wq) (C := RX4) (T := TX4) (N := 13) hx hb hts (z_inFw (c := 0) rfl) hown hK hP 0 rfl rfl 7 (by decide) (hts _ w2) (fun _ h => h) hf7 (by decide +kernel : decode cX4_init 128 = .ok (.getfield 48, 3)) ?_
  refine lv_iload_n hx hb (by decide +kernel : decode cX4_init 131 = .ok (.iload_n 2, 1)) rfl (lv_at hl 0 rfl) ?_
  refine zn_obj (ci := 4) (n1 := 11) (n2 := 458) (idx := 46) (j := 55) (y := yX2_init) (cy := cX2_init) (C := RX2) (T := TX2) (N := 18) (own := RX4) (nL := 3) hx hb hml hts hown hK hA hl.1 rfl (by decide) zh_w2 hl2 rfl rfl (by decide +kernel) hR (fun A q => zi_X2 l D ca A q) hP hD hS (Nat.le_of_ble_eq_true rfl) (by omega) (by omega) (by decide +kernel : decode cX4_init 132 = .ok (.new 46, 3)) (by decide +kernel : decode cX4_init 135 = .ok (.dup, 1)) (by decide +kernel : decode cX4_init 136 = .ok (.invokespecial 55, 3)) (fun a H1 locs1 hP1 hD1 hS1 => ?_)
  have hP1 : va_P D zCL ((h0, .inr (0, fs)) :: (wq, .inl (ca 2, 2, zRf f)) :: (tq, .inl (ca 2, 2, zRf g)) :: (wt ++ zOb ca 4 a)) H1 := hP1
  have hD1 : va_D A ((h0, .inr (0, fs)) :: (wq, .inl (ca 2, 2, zRf f)) :: (tq, .inl (ca 2, 2, zRf g)) :: (wt ++ zOb ca 4 a)) := hD1
  have hhd : ∀ b : Nat → Nat, ∃ vs : List Value, (zOb ca 4 b)[0]? = some (b 0, .inr (4, vs)) := fun b => ⟨_, rfl⟩
  obtain ⟨va, hva⟩ := hhd a
  refine va_astq (r := (RX2, TX2, 18)) (vs := va) hx hb hK hP1 hD1 hS1 1 2 (wt.length + 3) 4 rfl rfl (by show (wt ++ zOb ca 4 a)[wt.length]? = _; rw [List.getElem?_append_right (Nat.le_refl _), Nat.sub_self]; exact hva) rfl (z_vpin hi (by decide)) (by decide +kernel : decode cX4_init 139 = .ok (.aastore, 1)) (fun H2 locs2 hP2 hD2 hS2 => ?_)
  have hP2 : va_P D zCL ((h0, .inr (0, fs)) :: (wq, .inl (ca 2, 2, zRf (va_up f (nI i).toNatClampNeg (some (a 0))))) :: (tq, .inl (ca 2, 2, zRf g)) :: (wt ++ zOb ca 4 a)) H2 := hP2
  have hD2 : va_D A ((h0, .inr (0, fs)) :: (wq, .inl (ca 2, 2, zRf (va_up f (nI i).toNatClampNeg (some (a 0))))) :: (tq, .inl (ca 2, 2, zRf g)) :: (wt ++ zOb ca 4 a)) := hD2
  rw [hcl] at hP2 hD2
  refine lv_aload_n hx hb (by decide +kernel : decode cX4_init 140 = .ok (.aload_n 0, 1)) rfl (lv_at hl 1 rfl) ?_
  refine va_get (D := D) (ci := 0) (v := .ref tq) (C := RX4) (T := TX4) (N := 13) hx hb hts (z_inFw (c := 0) rfl) hown hK hP2 0 rfl rfl 8 (by decide) (hts _ w3) (fun _ h => h) hf8 (by decide +kernel : decode cX4_init 141 = .ok (.getfield 52, 3)) ?_
  refine lv_iload_n hx hb (by decide +kernel : decode cX4_init 144 = .ok (.iload_n 2, 1)) rfl (lv_at hl 0 rfl) ?_
  refine zn_obj (ci := 4) (n1 := 11) (n2 := 458) (idx := 46) (j := 55) (y := yX2_init) (cy := cX2_init) (C := RX2) (T := TX2) (N := 18) (own := RX4) (nL := 3) hx hb hml hts hown hK hA hl.1 rfl (by decide) zh_w2 hl2 rfl rfl (by decide +kernel) hR (fun A q => zi_X2 l D ca A q) hP2 hD2 hS2 (Nat.le_of_ble_eq_true rfl) (by omega) (by omega) (by decide +kernel : decode cX4_init 145 = .ok (.new 46, 3)) (by decide +kernel : decode cX4_init 148 = .ok (.dup, 1)) (by decide +kernel : decode cX4_init 149 = .ok (.invokespecial 55, 3)) (fun b H3 locs3 hP3 hD3 hS3 => ?_)
  have hP3 : va_P D zCL ((h0, .inr (0, fs)) :: (wq, .inl (ca 2, 2, zRf (va_up f i (some (a 0))))) :: (tq, .inl (ca 2, 2, zRf g)) :: ((wt ++ zOb ca 4 a) ++ zOb ca 4 b)) H3 := hP3
  have hD3 : va_D A ((h0, .inr (0, fs)) :: (wq, .inl (ca 2, 2, zRf (va_up f i (some (a 0))))) :: (tq, .inl (ca 2, 2, zRf g)) :: ((wt ++ zOb ca 4 a) ++ zOb ca 4 b)) := hD3
  obtain ⟨vb, hvb⟩ := hhd b
  refine va_astq (r := (RX2, TX2, 18)) (vs := vb) hx hb hK hP3 hD3 hS3 2 2 ((wt ++ zOb ca 4 a).length + 3) 4 rfl rfl (by show ((wt ++ zOb ca 4 a) ++ zOb ca 4 b)[(wt ++ zOb ca 4 a).length]? = _; rw [List.getElem?_append_right (Nat.le_refl _), Nat.sub_self]; exact hvb) rfl (z_vpin hi (by decide)) (by decide +kernel : decode cX4_init 152 = .ok (.aastore, 1)) (fun H4 locs4 hP4 hD4 hS4 => ?_)
  have hP4 : va_P D zCL ((h0, .inr (0, fs)) :: (wq, .inl (ca 2, 2, zRf (va_up f i (some (a 0))))) :: (tq, .inl (ca 2, 2, zRf (va_up g (nI i).toNatClampNeg (some (b 0))))) :: ((wt ++ zOb ca 4 a) ++ zOb ca 4 b)) H4 := hP4
  have hD4 : va_D A ((h0, .inr (0, fs)) :: (wq, .inl (ca 2, 2, zRf (va_up f i (some (a 0))))) :: (tq, .inl (ca 2, 2, zRf (va_up g (nI i).toNatClampNeg (some (b 0))))) :: ((wt ++ zOb ca 4 a) ++ zOb ca 4 b)) := hD4
  rw [hcl] at hP4 hD4
  refine lv_iinc (v := nI (i + 1)) (lv' := [(2, .int (nI (i + 1))), (0, .ref h0)]) hx hb (by decide +kernel : decode cX4_init 153 = .ok (.iinc 2 1, 3)) hl (k := 0) rfl (nI_1 i) (by decide) rfl (fun ls hl => ?_)
  refine lv_goto (tgt := 122) hx hb (by decide +kernel : decode cX4_init 156 = .ok (.goto (-34), 3)) (by decide) ?_
  refine W.widen (k := cells + 24) (n := slots + 952) (by omega) (by omega) ?_
  exact kk a b H4 locs4 ls hP4 hD4 hS4 hl
end Hs
def zT4 (ca : Nat → ClassId) (u : Nat → Nat) : va_W := [(u 1, .inl (ca 0, 400, .inl (fun _ => 0))), (u 2, .inl (ca 0, 8, .inl (fun _ => 0))), (u 3, .inl (ca 0, 16, .inl (fun _ => 0))), (u 4, .inl (ca 1, 32, .inl (fun _ => 0)))]
/-- the world of a new house: u 0 its addresses, u 1 the reader's, u 2 the book's, u 4 to u 7 the runs', u 8 the empty script's -/
def zHw (ca : Nat → ClassId) (u : Nat → Nat → Nat) : va_W := (u 0 0, .inr (0, [.ref (u 0 1), .ref (u 0 2), .ref (u 0 3), .ref (u 0 4), .ref (u 0 5), .ref (u 1 0), .ref (u 2 0), .ref (u 0 8), .ref (u 0 9), .ref (u 0 10), .int 0, .int 0, .int 0])) :: (u 0 8, .inl (ca 2, 2, zRf (va_up (va_up (fun _ => none) 0 (some (u 4 0))) 1 (some (u 5 0))))) :: (u 0 9, .inl (ca 2, 2, zRf (va_up (va_up (fun _ => none) 0 (some (u 6 0))) 1 (some (u 7 0))))) :: (((((((u 8 0, .inr (5, [.ref (u 8 1), .int 0])) :: (u 0 5, .inl (ca 3, 8, zRf (fun _ => some (u 8 0)))) :: ((u 8 1, .inl (ca 0, 0, .inl (fun _ => 0))) :: (zT4 ca (u 0) ++ (zOb ca 1 (u 1) ++ zOb ca 2 (u 2))))) ++ zOb ca 4 (u 4)) ++ zOb ca 4 (u 6)) ++ zOb ca 4 (u 5)) ++ zOb ca 4 (u 7)) ++ [(u 0 10, .inl (ca 0, 30, .inl (fun _ => 0)))])
