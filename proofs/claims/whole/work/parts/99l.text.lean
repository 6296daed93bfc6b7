/-! ===== ReplayHouse.text ===== -/
theorem W_imp {p : Program} {l : Launch} {e : Env} {R : Room} {s : State} {m : MethodId} {args : Array Value} {below : List Frame} {meth : Method} {c : Code} {H : Heap} {locs : List Loc} {cells slots : Nat} {Q Q' : State → Prop} {g : JFrame} (h : ∀ t, Q t → Q' t) (k : W p l e R s m args below meth c H locs cells slots Q g) : W p l e R s m args below meth c H locs cells slots Q' g := by
  intro T hT X
  obtain ⟨t, a1, b1⟩ := k T hT X
  exact ⟨t, a1, h t b1⟩
theorem vx_MQ_imp {below : List Frame} {Qc Qc' : Array Value → State → Outcome → State → Prop} {XC : String → State → State → Prop} {a : Array Value} {s : State} {mc ms mc' ms' : Nat} {free : Addr → Prop} {t : State} (h : ∀ o t, Qc a s o t → Qc' a s o t) (e1 : mc = mc') (e2 : ms = ms') (k : vx_MQ below Qc XC a s mc ms free t) : vx_MQ below Qc' XC a s mc' ms' free t := by
  subst e1
  subst e2
  obtain ⟨o, h1, h2, h3⟩ := k
  refine ⟨o, h1, h2, ?_⟩
  rcases h3 with ⟨h4, h5⟩ | h4
  · exact Or.inl ⟨h o t h4, h5⟩
  · exact Or.inr h4
theorem z_ad_tab : ((List.range 5).all fun c => (List.range (z_nf c)).all fun k => match z_fk c k with
    | (2, d) => decide (d ≠ 5)
    | _ => true) = true := by decide +kernel
theorem z_ad_tab2 : ∀ x ∈ zWI, x.2.2 ≠ 0 → (z_ak x.1 (x.2.2 - 1)).1 < 3 ∨ x = (0, 0, 5) := by decide +kernel
theorem z_cell_ae {ad ad' : zAD} {ca : Nat → ClassId} {g g' : zSG} (hae : zAe ad ad') (hg : ∀ c i, c < 5 → g' c i = g c i) {x : Nat × Nat × Nat} (hx : x ∈ zWI) (h5 : x ≠ (0, 0, 5)) : z_cell ad' ca g' x = z_cell ad ca g x := by
  have hlt0 := zWI_lt x hx
  obtain ⟨c, i, k⟩ := x
  have hlt : c < 5 := hlt0
  clear hlt0
  cases k with
  | zero =>
    rw [z_cell_0, z_cell_0]
    congr 2
    apply List.map_congr_left
    intro k hk
    have h1 := List.all_eq_true.mp (List.all_eq_true.mp z_ad_tab c (List.mem_range.mpr hlt)) k hk
    unfold z_fval
    rw [hg c i hlt]
    generalize z_fk c k = w at h1 ⊢
    obtain ⟨a, b⟩ := w
    match a, h1 with
    | 0, _ => rfl
    | 1, _ => exact congrArg Value.ref (hae c i (k + 1) (by omega))
    | 2, h1 => exact congrArg Value.ref (hae b 0 0 (of_decide_eq_true h1))
    | n + 3, _ =>
      show Value.ref (if (g c i).1 k = 1 then ad' 0 0 1 else ad' 9 0 0) = Value.ref (if (g c i).1 k = 1 then ad 0 0 1 else ad 9 0 0)
      rw [hae 0 0 1 (by decide), hae 9 0 0 (by decide)]
  | succ k =>
    have h1 : (z_ak c k).1 < 3 := (z_ad_tab2 (c, i, k + 1) hx (Nat.succ_ne_zero k)).resolve_right h5
    have ea : z_alen g' c i k = z_alen g c i k := by
      unfold z_alen
      split
      · exact absurd hlt (by omega)
      · rfl
    have e4 : (fun j => some (ad' 4 ((bif Nat.beq k 7 then 0 else 2) + j) 0)) = (fun j => some (ad 4 ((bif Nat.beq k 7 then 0 else 2) + j) 0)) := funext fun j => by rw [hae 4 _ 0 (by decide)]
    unfold z_cell
    dsimp only
    rw [ea, hg c i hlt, e4]
    rcases (show (z_ak c k).1 = 0 ∨ (z_ak c k).1 = 1 ∨ (z_ak c k).1 = 2 by omega) with h2 | h2 | h2 <;> (rw [h2]; rfl)
theorem z_cgI {cA : ClassId} {n : Nat} {f f' : Nat → Int32} (h : ∀ j, j < n → f' j = f j) : vp_cell cA (n, .inl f') = vp_cell cA (n, .inl f) := by
  unfold vp_cell arrV
  dsimp only
  congr 2
  funext j
  rw [h j.val j.isLt]
section Tx
variable {p : Program} {l : Launch} {e : Env} {R : Room} {s : State} {m : MethodId} {args : Array Value} {below : List Frame} {meth : Method} {c : Code} {D : va_G} {ca : Nat → ClassId} {ad : zAD} {A : Nat → Prop} {g g0 : zSG} {H : Heap} {locs : List Loc} {cells slots pc : Nat} {ls : Array Slot} {rest : List Value} {Q : State → Prop} {cc : ByteArray} {own : String}
theorem zl_get (hx : p.tables.exec = Jvm.exec) (hb : c.code = cc) (hts : ∀ w ∈ zWS, w.before args s = true) (hown : s.vm.findClass own = some m.cls) (hK : va_K D zCL (zTL ca) s) (hL : zLI D ca ad A g H) {k o kf j : Nat} {q : vw_C} {v : Value} (hq : zCL[k]? = some q) (hk5 : k < 5) (ho : o < z_ni k) (hkf : kf < q.2.2) (hlink : Cond.fieldLink own j (q.2.1 kf).1 (q.2.1 kf).2.1 (q.2.1 kf).2.2.1 ∈ zWS) (hv : z_fval ad g k o kf = v) (hd : decode cc pc = .ok (.getfield j, 3)) (kk : W p l e R s m args below meth c H locs cells slots Q (F0 m (pc + 3) ls (v :: rest))) : W p l e R s m args below meth c H locs cells slots Q (F0 m pc ls (.ref (ad k o 0) :: rest)) := by
  obtain ⟨C, T, N⟩ := q
  have hN : N = z_nf k := z_nfok hq
  refine va_get (D := D) (cl := zCL) (tys := zTL ca) (ci := k) (C := C) (T := T) (N := N) hx hb hts (z_inFw hq) hown hK (z_one (z_atW ⟨hL.1.1, hL.1.2⟩ (zWI_obj k hk5 o ho))) 0 rfl hq kf hkf (hts _ hlink) (fun _ h => h) (v := v) ?_ hd kk
  rw [List.getElem?_map, List.getElem?_range (by rw [← hN]; exact hkf)]
  show some (z_fval ad g k o kf) = _
  rw [hv]
theorem zt_LI (hE : zEv D ca ad A g0 s s.heap) (hS : va_S A s.heap H locs) (hP : va_P D zCL (z_wl ad ca g) H) (hD : va_D A (z_wl ad ca g)) (h5 : g 5 = g0 5) : zLI D ca ad A g H := by
  refine ⟨⟨hP, hD⟩, ?_, fun q hq x hx he => ?_⟩
  · rw [z_sl_cong h5]
    exact (hE.kept hS.2.1).1
  · obtain ⟨k, -, h2⟩ := z_wlget (ad := ad) (ca := ca) (g := g) hx
    have h3 := hD.2 k _ h2
    exact hE.2.1 q hq (by rw [he]; exact h3)
end Tx
theorem z_bI_cases {o : Option zRR} {k : Int32 → zSG → Option zRR} {r : zRR} (h : z_bI o k = some r) : (∃ b g, o = some (.inl (some (.inl b)), g) ∧ k b g = some r) ∨ ∃ x g, o = some (.inr x, g) ∧ r = (.inr x, g) := by
  unfold z_bI at h
  split at h
  · exact Or.inl ⟨_, _, rfl, h⟩
  · exact Or.inr ⟨_, _, rfl, (Option.some.inj h).symm⟩
  · cases h
theorem zx_w : (decide (Cond.methodLink RX4 67 yX4_checkVersion ∈ zWS) && decide (Cond.static yX4_checkVersion ∈ zWS) && decide (Cond.initialized yX4_checkVersion.cls ∈ zWS)) = true ∧ (decide (Cond.methodLink RX4 70 yX4_checkKind ∈ zWS) && decide (Cond.static yX4_checkKind ∈ zWS) && decide (Cond.initialized yX4_checkKind.cls ∈ zWS)) = true ∧ (decide (Cond.methodLink RX4 80 yX1_understands ∈ zWS) && decide (Cond.instanceMethod yX1_understands ∈ zWS) && decide (Cond.selects RX1 yX1_understands yX1_understands ∈ zWS) && decide (Cond.initialized RX1 ∈ zWS)) = true ∧ (decide (Cond.methodLink RX4 84 yX1_place ∈ zWS) && decide (Cond.instanceMethod yX1_place ∈ zWS) && decide (Cond.selects RX1 yX1_place yX1_place ∈ zWS) && decide (Cond.initialized RX1 ∈ zWS)) = true ∧ (decide (Cond.methodLink RX4 92 yX4_forgetRuns ∈ zWS) && decide (Cond.instanceMethod yX4_forgetRuns ∈ zWS) && decide (Cond.selects RX4 yX4_forgetRuns yX4_forgetRuns ∈ zWS) && decide (Cond.initialized RX4 ∈ zWS)) = true := by decide +kernel
theorem zx_w2 : (decide (Cond.code yX4_checkVersion cX4_checkVersion 1 none ∈ zWS) && decide (Cond.code yX4_checkKind cX4_checkKind 1 none ∈ zWS) && decide (Cond.code yX1_understands cX1_understands 3 (some .boolean) ∈ zWS) && decide (Cond.code yX1_place cX1_place 1 (some .int) ∈ zWS) && decide (Cond.code yX4_forgetRuns cX4_forgetRuns 1 none ∈ zWS) && decide (Cond.methodLink RX4 88 yX1_script ∈ zWS) && decide (Cond.instanceMethod yX1_script ∈ zWS) && decide (Cond.selects RX1 yX1_script yX1_script ∈ zWS) && decide (Cond.initialized RX1 ∈ zWS) && decide (Cond.code yX1_script cX1_script 1 (some (.object RX3)) ∈ zWS) && decide (Cond.fieldLink RX4 59 (TX4 12).1 (TX4 12).2.1 (TX4 12).2.2.1 ∈ zWS) && decide (Cond.fieldLink RX4 26 (TX4 5).1 (TX4 5).2.1 (TX4 5).2.2.1 ∈ zWS) && decide (Cond.fieldLink RX4 9 (TX4 0).1 (TX4 0).2.1 (TX4 0).2.2.1 ∈ zWS) && decide (Cond.fieldLink RX4 42 (TX4 4).1 (TX4 4).2.1 (TX4 4).2.2.1 ∈ zWS) && decide (Cond.fieldLink RX4 95 (TX3 1).1 (TX3 1).2.1 (TX3 1).2.2.1 ∈ zWS)) = true := by decide +kernel
def zAt (ad : zAD) (t q rr : Nat) : zAD := fun c i k => if c = 5 ∧ i = t then (if k = 0 then q else rr) else ad c i k
theorem zAt_e (ad : zAD) (t q rr : Nat) : zAe ad (zAt ad t q rr) := fun c i k h => by
  unfold zAt
  rw [if_neg (fun hc => h hc.1)]
theorem zX_scr_lt (g : zSG) (t : Nat) {c i : Nat} (h : c < 5) : zX_scr g t c i = g c i := by
  unfold zX_scr
  rw [q_O_c _ _ _ (show c ≠ 5 by omega)]
/-- the world and the scripts with a new script at the slot t -/
theorem zt_new {D : va_G} {ca : Nat → ClassId} {ad : zAD} {A : Nat → Prop} {g : zSG} {H : Heap} {t q rr k k0 : Nat} {h : Nat → Int32} (ht : t < 8) (hk : (g 1 0).1 4 = nI k) (hk4 : k < 400) (hL : zLI D ca ad A g H) {H1 : Heap} (hk0 : zWI[k0]? = some (0, 0, 5)) (hP1 : va_P D zCL ((z_wl ad ca g).set k0 (ad 0 0 5, .inl (ca 3, 8, zRf (va_up (fun j => some (ad 5 j 0)) t (some q))))) H1) (hD1 : va_D A ((z_wl ad ca g).set k0 (ad 0 0 5, .inl (ca 3, 8, zRf (va_up (fun j => some (ad 5 j 0)) t (some q)))))) (hsl : va_P D zCL (z_sl ad ca g) H1) (hq : ∀ x ∈ zWI, z_aq ad x ≠ q ∧ z_aq ad x ≠ rr) (hN : va_P D zCL [(q, .inr (5, [.ref rr, .int ((g 1 0).1 5)])), (rr, .inl (ca 0, k, .inl h))] H1) (hh : ∀ j, j < k → h j = (g 1 0).2 0 j) : zLI D ca (zAt ad t q rr) A (zX_scr g t) H1 := by
  have hae := zAt_e ad t q rr
  have e5 : (fun j => some (zAt ad t q rr 5 j 0)) = va_up (fun j => some (ad 5 j 0)) t (some q) := by
    funext j
    unfold zAt va_up
    by_cases hj : j = t
    · rw [if_pos ⟨rfl, hj⟩, if_pos rfl, if_pos hj]
    · rw [if_neg (fun hc => hj hc.2), if_neg hj]
  have hl0 : k0 < (z_wl ad ca g).length := by
    unfold z_wl
    rw [List.length_map]
    exact (List.getElem?_eq_some_iff.mp hk0).1
  refine ⟨⟨zP_iff.mpr fun y hy => ?_, ?_⟩, zP_iff.mpr fun y hy => ?_, fun y hy x hx => ?_⟩
  · unfold z_wl at hy
    obtain ⟨x, hx, ey⟩ := List.mem_map.mp hy
    rw [← ey, z_aq_e hae hx]
    by_cases h5 : x = (0, 0, 5)
    · subst h5
      have h1 := hP1 k0 _ (List.getElem?_set_self hl0)
      have ec : z_cell (zAt ad t q rr) ca (zX_scr g t) (0, 0, 5) = .inl (ca 3, 8, zRf (fun j => some (zAt ad t q rr 5 j 0))) := rfl
      rw [ec, e5]
      exact h1
    · rw [z_cell_ae hae (fun c i hc => zX_scr_lt g t hc) hx h5]
      obtain ⟨k1, hk1, hw1⟩ := z_wlget (ad := ad) (ca := ca) (g := g) hx
      have hne : k0 ≠ k1 := fun he => by
        rw [← he, hk0] at hk1
        exact h5 (Option.some.inj hk1).symm
      exact hP1 k1 _ (by rw [List.getElem?_set_ne hne]; exact hw1)
  · refine zD_iff.mpr ⟨?_, fun y hy => ?_⟩
    · have h1 := (zD_iff.mp hL.1.2).1
      have e : (z_wl (zAt ad t q rr) ca (zX_scr g t)).map Prod.fst = (z_wl ad ca g).map Prod.fst := by
        unfold z_wl
        rw [List.map_map, List.map_map]
        apply List.map_congr_left
        intro x hx
        exact z_aq_e hae hx
      rw [e]
      exact h1
    · unfold z_wl at hy
      obtain ⟨x, hx, ey⟩ := List.mem_map.mp hy
      rw [← ey]
      show A (z_aq (zAt ad t q rr) x)
      rw [z_aq_e hae hx]
      exact zl_in hL hx
  · unfold z_sl at hy
    obtain ⟨x, hx, ey⟩ := List.mem_map.mp hy
    rw [← ey]
    have hx5 : x.1 = 5 ∧ x.2.2 < 2 := (by decide +kernel : ∀ x ∈ zSI, x.1 = 5 ∧ x.2.2 < 2) x hx
    obtain ⟨c, i, kk⟩ := x
    obtain ⟨hc, hkk⟩ := hx5
    have hc : c = 5 := hc
    have hkk : kk < 2 := hkk
    subst hc
    by_cases hi : i = t
    · subst hi
      have ea : ∀ k, z_aq (zAt ad i q rr) (5, i, k) = if k = 0 then q else rr := fun k => by
        show zAt ad i q rr 5 i k = _
        unfold zAt
        rw [if_pos ⟨rfl, rfl⟩]
      have eg : zX_scr g i 5 i = (upd (upd (fun _ => 0) 0 ((g 1 0).1 4)) 1 ((g 1 0).1 5), fun _ => (g 1 0).2 0) := by
        unfold zX_scr
        rw [q_O_get]
      rcases (show kk = 0 ∨ kk = 1 by omega) with rfl | rfl
      · rw [ea 0, if_pos rfl]
        have ec : z_cell (zAt ad i q rr) ca (zX_scr g i) (5, i, 0) = .inr (5, [.ref (zAt ad i q rr 5 i 1), .int ((zX_scr g i 5 i).1 1)]) := rfl
        rw [ec, eg, show zAt ad i q rr 5 i 1 = rr from ea 1]
        exact hN 0 _ rfl
      · rw [ea 1, if_neg (by decide)]
        have ec : z_cell (zAt ad i q rr) ca (zX_scr g i) (5, i, 1) = .inl (ca 0, ((zX_scr g i 5 i).1 0).toNatClampNeg, .inl ((zX_scr g i 5 i).2 0)) := rfl
        rw [ec, eg]
        show H1[rr]? = some (vp_cell (ca 0) (((g 1 0).1 4).toNatClampNeg, .inl ((g 1 0).2 0)))
        rw [hk, nI_clamp (by omega), ← z_cgI (f := (g 1 0).2 0) (f' := h) (n := k) hh]
        exact hN 1 _ rfl
    · have ea : z_aq (zAt ad t q rr) (5, i, kk) = z_aq ad (5, i, kk) := by
        show zAt ad t q rr 5 i kk = ad 5 i kk
        unfold zAt
        rw [if_neg (fun hc => hi hc.2)]
      have eg : zX_scr g t 5 i = g 5 i := by
        unfold zX_scr
        rw [q_O_i _ _ _ hi]
      have ec : z_cell (zAt ad t q rr) ca (zX_scr g t) (5, i, kk) = z_cell ad ca g (5, i, kk) := by
        rcases (show kk = 0 ∨ kk = 1 by omega) with rfl | rfl
        · have e1 : z_cell (zAt ad t q rr) ca (zX_scr g t) (5, i, 0) = .inr (5, [.ref (zAt ad t q rr 5 i 1), .int ((zX_scr g t 5 i).1 1)]) := rfl
          have e2 : z_cell ad ca g (5, i, 0) = .inr (5, [.ref (ad 5 i 1), .int ((g 5 i).1 1)]) := rfl
          have e3 : zAt ad t q rr 5 i 1 = ad 5 i 1 := by
            unfold zAt
            rw [if_neg (fun hc => hi hc.2)]
          rw [e1, e2, eg, e3]
        · have e1 : z_cell (zAt ad t q rr) ca (zX_scr g t) (5, i, 1) = .inl (ca 0, ((zX_scr g t 5 i).1 0).toNatClampNeg, .inl ((zX_scr g t 5 i).2 0)) := rfl
          have e2 : z_cell ad ca g (5, i, 1) = .inl (ca 0, ((g 5 i).1 0).toNatClampNeg, .inl ((g 5 i).2 0)) := rfl
          rw [e1, e2, eg]
      rw [ea, ec]
      obtain ⟨k1, hk1⟩ := z_slget (ad := ad) (ca := ca) (g := g) hx
      exact hsl k1 _ hk1
  · rw [z_aq_e hae hx]
    obtain ⟨c, i, kk⟩ := y
    have hc : c = 5 := (by decide +kernel : ∀ x ∈ zSI, x.1 = 5) _ hy
    subst hc
    by_cases hi : i = t
    · subst hi
      have ea : z_aq (zAt ad i q rr) (5, i, kk) = if kk = 0 then q else rr := by
        show zAt ad i q rr 5 i kk = _
        unfold zAt
        rw [if_pos ⟨rfl, rfl⟩]
      rw [ea]
      split
      · exact fun he => (hq x hx).1 he.symm
      · exact fun he => (hq x hx).2 he.symm
    · have ea : z_aq (zAt ad t q rr) (5, i, kk) = z_aq ad (5, i, kk) := by
        show zAt ad t q rr 5 i kk = ad 5 i kk
        unfold zAt
        rw [if_neg (fun hc => hi hc.2)]
      rw [ea]
      exact hL.2.2 _ hy x hx
