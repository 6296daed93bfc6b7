/-! ===== the start: the world that the law's loop keeps ===== -/
def zc_a (q : Nat × Nat × Nat) : Nat × Nat := (bif Nat.beq q.1 4 then 4 + q.2.1 else q.1, q.2.2)
def zc_w (u : Nat → Nat → Nat) (v : Nat → Nat) (ao : Nat) (x : Nat × Nat) : Nat := match x.1 with
  | 3 => v x.2
  | 9 => ao
  | c => u c x.2
def zc_o (c c' : Nat) : List (Nat × Nat) := (zWI.filter (fun q => Nat.beq q.1 c && Nat.beq q.2.1 0)).map (fun q => (c', q.2.2))
def zC1 : List (Nat × Nat) := [(0, 0), (0, 8), (0, 9), (8, 0), (0, 5), (8, 1), (0, 1), (0, 2), (0, 3), (0, 4)] ++ zc_o 1 1 ++ zc_o 2 2 ++ zc_o 4 4 ++ zc_o 4 6 ++ zc_o 4 5 ++ zc_o 4 7 ++ [(0, 10)] ++ zc_o 3 3 ++ [(9, 0)]
theorem zC1_perm : zC1.Perm (zWI.map zc_a ++ [(8, 0), (8, 1), (9, 0)]) := List.isPerm_iff.mp (by decide +kernel)
section Sx
variable {D : va_G} {ca : Nat → ClassId} {A : Nat → Prop} {u : Nat → Nat → Nat} {v kK kV : Nat → Nat} {ao : Nat} {cJ : ClassId} {f : Nat → Int64} {H : Heap}
set_option maxRecDepth 100000 in
theorem zs_adr1 (E : va_E) : ((zHw ca u ++ zOb ca 3 v) ++ [(ao, E)]).map Prod.fst = zC1.map (zc_w u v ao) := rfl
set_option maxRecDepth 100000 in
theorem zs_adr2 (g : zSG) (ao : Nat) : (z_wl (zA0 u v kK kV) ca g).map Prod.fst = (zWI.map zc_a).map (zc_w u v ao) := rfl
theorem zn_cgA {a n : Nat} {cA : ClassId} {f f' : Nat → Option Nat} (h : va_at D zCL (a, .inl (cA, n, zRf f)) H) (hf : ∀ j, j < n → f' j = f j) : va_at D zCL (a, .inl (cA, n, zRf f')) H := by
  have h1 : H[a]? = some (vp_cell cA (n, .inr (.inr (.inr (.inr f))))) := h
  show H[a]? = some (vp_cell cA (n, .inr (.inr (.inr (.inr f')))))
  rw [h1]
  unfold vp_cell arrV
  dsimp only
  congr 3
  funext j
  rw [hf j.val j.isLt]
theorem zs_si : ∀ q ∈ zSI, q.1 = 5 ∧ (q.2.2 = 0 ∨ q.2.2 = 1) := by decide
theorem zs_LI (hP : va_P D zCL ((zHw ca u ++ zOb ca 3 v) ++ [(ao, .inl (cJ, 1, .inr (.inl f)))]) H) (hD : va_D A ((zHw ca u ++ zOb ca 3 v) ++ [(ao, .inl (cJ, 1, .inr (.inl f)))])) : zLI D ca (zA0 u v kK kV) A zGZ H ∧ zLO D (zA0 u v kK kV) A ao cJ f H := by
  obtain ⟨hnd, hAl⟩ := zD_iff.mp hD
  have hAa : ∀ x ∈ zC1.map (zc_w u v ao), A x := fun x hx => by
    rw [← zs_adr1 (ca := ca) (.inl (cJ, 1, .inr (.inl f)))] at hx
    obtain ⟨q, hq, e⟩ := List.mem_map.mp hx
    rw [← e]
    exact hAl q hq
  rw [zs_adr1] at hnd
  have hpm := zC1_perm.map (zc_w u v ao)
  have hn2 := hpm.nodup_iff.mp hnd
  rw [List.map_append, List.nodup_append, ← zs_adr2 (ca := ca) (kK := kK) (kV := kV) zGZ ao] at hn2
  obtain ⟨n1, n2, n3⟩ := hn2
  have hA2 : ∀ q ∈ z_wl (zA0 u v kK kV) ca zGZ, A q.1 := fun q hq => hAa _ (hpm.mem_iff.mpr (by
    rw [List.map_append, ← zs_adr2 (ca := ca) (kK := kK) (kV := kV) zGZ ao]
    exact List.mem_append_left _ (List.mem_map.mpr ⟨q, hq, rfl⟩)))
  have hAo : A ao := hAa _ (hpm.mem_iff.mpr (by
    rw [List.map_append]
    exact List.mem_append_right _ (List.mem_cons_of_mem _ (List.mem_cons_of_mem _ (List.mem_cons_self ..)))))
  have key := zP_iff.mp hP
  simp only [List.forall_mem_append, zHw, zT4, List.forall_mem_cons] at key
  obtain ⟨⟨⟨h00, h08, h09, ⟨⟨⟨⟨⟨hs, h05, hsa, ⟨h01, h02, h03, h04, -⟩, hO1, hO2⟩, hO4⟩, hO6⟩, hO5⟩, hO7⟩, h10, -⟩, hO3⟩, hao, -⟩ := key
  have hs8 : ∀ q ∈ zSI, z_aq (zA0 u v kK kV) q = u 8 0 ∨ z_aq (zA0 u v kK kV) q = u 8 1 := fun q hq => by
    obtain ⟨e1, e2⟩ := zs_si q hq
    obtain ⟨c, i, k⟩ := q
    have e1 : c = 5 := e1
    subst e1
    rcases e2 with e2 | e2
    · have e2 : k = 0 := e2
      subst e2
      exact Or.inl rfl
    · have e2 : k = 1 := e2
      subst e2
      exact Or.inr rfl
  have hwm : ∀ x ∈ zWI, z_aq (zA0 u v kK kV) x ∈ (z_wl (zA0 u v kK kV) ca zGZ).map Prod.fst := fun x hx => by
    unfold z_wl
    rw [List.map_map]
    exact List.mem_map.mpr ⟨x, hx, rfl⟩
  refine ⟨⟨⟨?_, zD_iff.mpr ⟨n1, hA2⟩⟩, ?_, fun q hq x hx => ?_⟩, hao, hAo, fun x hx => ?_, fun q hq => ?_⟩
  · rw [zs_wl]
    refine zP_iff.mpr ?_
    simp only [List.forall_mem_append, zB0, List.forall_mem_cons]
    refine ⟨⟨h00, h01, h02, h03, h04, h05, zn_cgA h08 (fun j hj => ?_), zn_cgA h09 (fun j hj => ?_), h10, fun _ h => absurd h List.not_mem_nil⟩, hO1, hO2, hO3, hO4, hO5, hO6, hO7⟩
    · rcases (show j = 0 ∨ j = 1 by omega) with rfl | rfl <;> rfl
    · rcases (show j = 0 ∨ j = 1 by omega) with rfl | rfl <;> rfl
  · refine zP_iff.mpr fun q hq => ?_
    unfold z_sl at hq
    obtain ⟨x, hx, e⟩ := List.mem_map.mp hq
    rw [← e]
    obtain ⟨e1, e2⟩ := zs_si x hx
    obtain ⟨c, i, k⟩ := x
    have e1 : c = 5 := e1
    subst e1
    rcases e2 with e2 | e2
    · have e2 : k = 0 := e2
      subst e2
      exact hs
    · have e2 : k = 1 := e2
      subst e2
      exact hsa
  · have h1 := n3 _ (hwm x hx)
    rcases hs8 q hq with e | e
    · rw [e]
      exact (h1 _ (List.mem_cons_self ..)).symm
    · rw [e]
      exact (h1 _ (List.mem_cons_of_mem _ (List.mem_cons_self ..))).symm
  · exact (n3 _ (hwm x hx) _ (List.mem_cons_of_mem _ (List.mem_cons_of_mem _ (List.mem_cons_self ..)))).symm
  · have n4 : ([u 8 0, u 8 1, ao] : List Nat).Nodup := n2
    simp only [List.nodup_cons, List.mem_cons, List.not_mem_nil, or_false, not_or] at n4
    rcases hs8 q hq with e | e
    · rw [e]
      exact fun h => n4.1.2 h.symm
    · rw [e]
      exact fun h => n4.2.1 h.symm
end Sx
