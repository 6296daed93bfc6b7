/-! ===== the start: what the Statement gives ===== -/
theorem q_I0 : q_I zGZ := by
  refine ⟨(fun _ => (0, 0, 0, 0, none, 0), fun _ => [], fun _ => 0, fun _ => 0), 0, 0, ?_, ?_, fun r _ => ⟨fun _ _ => rfl, fun _ _ => rfl, fun _ _ => rfl⟩, Or.inl rfl, ?_, fun _ _ => rfl, ⟨by decide, rfl, rfl, fun j h => absurd h (Nat.not_lt_zero j)⟩, fun j _ => ⟨rfl, Or.inl rfl⟩, ⟨0, by decide, rfl, fun a h => absurd h (Nat.not_lt_zero a)⟩⟩
  · exact ⟨by decide, fun i h => absurd h (Nat.not_lt_zero i), fun t _ => ⟨trivial, Nat.zero_le _, Nat.zero_le _, Nat.zero_le _⟩, fun _ _ => rfl, fun _ _ => rfl⟩
  · exact ⟨⟨rfl, fun i h => absurd h (Nat.not_lt_zero i), fun _ _ _ => rfl⟩, fun j h => absurd h (Nat.not_lt_zero j), fun t _ => ⟨rfl, rfl, trivial⟩, rfl, rfl⟩
  · exact ⟨rfl, fun i h => absurd h (Nat.not_lt_zero i), ⟨rfl, rfl⟩, fun t _ => ⟨rfl, rfl, trivial⟩, fun _ _ _ => rfl⟩
/-- the words that the start needs, in the list of the tables -/
def zs_ws : List Cond := [.laysStatic Bundle.tN "UNASSIGNED_STACK" Bundle.steD, .laysStatic Bundle.tN "SUPPRESSED_SENTINEL" Bundle.listD, .initialized Bundle.tN, .laysStatic "java/lang/String" "COMPACT_STRINGS" "Z", .initialized "java/lang/String", .laysStatic "jdk/internal/util/Preconditions" "SIOOBE_FORMATTER" "Ljava/util/function/BiFunction;", .initialized "jdk/internal/util/Preconditions"] ++ zMsg.map (fun q => .stringRef RX4 q.1 q.2) ++ zWds.map (fun q => .stringRef RX1 q.1 q.2) ++ zDecl.map .declares ++ zCast.map (fun q => .castable q.1 q.2) ++ [.arrayClass .int, .arrayClass .boolean, .arrayOver (.object RX2), .arrayOver (.object RX3), .methodLinkNest RX4 25 yX1_init RX4, .methodLinkNest RX4 32 yX0_init RX4, .methodLinkNest RX4 55 yX2_init RX4]
theorem zs_ws_ok : zs_ws.all (fun w => decide (w ∈ lw_tbl)) = true := by decide +kernel
def zs_tm (i : Nat) : Term := .string RX1 (zWds.getD i (0, "")).1
/-- what is said of the strings -/
def zs_gs : List Cond := (List.range 8).flatMap (fun i => [.exactly (zs_tm i) "java/lang/String", .eq (.field (zs_tm i) "java/lang/String" "coder" "B") (.int 0), .arrayOf (.field (zs_tm i) "java/lang/String" "value" "[B") .byte, .eq (.length (.field (zs_tm i) "java/lang/String" "value" "[B")) (.int (Int32.ofNat (zLen.getD i 0)))] ++ (List.range (zLen.getD i 0)).map (fun j => .eq (.elem (.field (zs_tm i) "java/lang/String" "value" "[B") (.int (Int32.ofNat j))) (.int ((zByt.getD i []).getD j 0))))
theorem zs_gs_ok : zs_gs.all (fun w => decide (w ∈ flatC (Jvm.Cond.and given_1 narrow_1))) = true := by decide +kernel
theorem zs_ne_ok : ((List.range 8).all fun i => (List.range 8).all fun j => Nat.beq i j || decide (Cond.not (.eq (zs_tm i) (zs_tm j)) ∈ flatC (Jvm.Cond.and given_1 narrow_1)) || decide (Cond.not (.eq (zs_tm j) (zs_tm i)) ∈ flatC (Jvm.Cond.and given_1 narrow_1))) = true := by decide +kernel
theorem zs_gv_ok : (decide (Cond.isRef (.static Bundle.tN "UNASSIGNED_STACK" Bundle.steD) ∈ flatC (Jvm.Cond.and given_1 narrow_1)) && decide (Cond.isRef (.static Bundle.tN "SUPPRESSED_SENTINEL" Bundle.listD) ∈ flatC (Jvm.Cond.and given_1 narrow_1)) && decide (Cond.eq (.static "java/lang/String" "COMPACT_STRINGS" "Z") (.int 1) ∈ flatC (Jvm.Cond.and given_1 narrow_1)) && decide (Cond.isRef (.static "jdk/internal/util/Preconditions" "SIOOBE_FORMATTER" "Ljava/util/function/BiFunction;") ∈ flatC (Jvm.Cond.and given_1 narrow_1)) && decide (Cond.not (.castable (zEx 0) (zEx 2)) ∈ flatC (Jvm.Cond.and given_1 narrow_1)) && decide (Cond.not (.castable (zEx 0) (zEx 1)) ∈ flatC (Jvm.Cond.and given_1 narrow_1))) = true := by decide +kernel
theorem zs_R {own tx : String} {k : Nat} {args : Array Value} {s : State} (h : (Cond.stringRef own k tx).before args s = true) : ∃ a, vk_R own k tx a s := by
  have hcur : ∃ cur, s.vm.findClass own = some cur := by
    have h1 := h
    simp only [Cond.before, Cond.holds, Cond.value] at h1
    cases hc : s.vm.findClass own with
    | none => simp [hc] at h1
    | some cur => exact ⟨cur, rfl⟩
  obtain ⟨cur, hcur⟩ := hcur
  obtain ⟨_, _, _, a, _, _, _, _, _, he⟩ := Cond.stringRef_spec hcur h
  exact ⟨a, vk_R.of h he⟩
section St
variable {p : Program} {s : State} {m : MethodId} {meth : Method} {c : Code} {b L : Nat} {xs : Nat → Int32}
theorem zs_w (C0 : lw_At p s m meth c b L xs) : ∀ w ∈ zs_ws, w.before #[Value.ref b] s = true := by
  obtain ⟨hx, hb, hr, hml, hown, hts, hX, hbl, hlocks, hgv⟩ := id C0
  exact fun w h => hts w (of_decide_eq_true (List.all_eq_true.mp zs_ws_ok w h))
theorem zs_env (C0 : lw_At p s m meth c b L xs) : ∃ kK kV : Nat → Nat, ∀ ad : zAD, (∀ i, ad 6 i 0 = kK i) → (∀ i, ad 6 i 1 = kV i) → zE0 ad (fun q => s.heap.size ≤ q) s s.heap := by
  have hw := zs_w C0
  obtain ⟨hx, hb, hr, hml, hown, hts, hX, hbl, hlocks, hgv⟩ := id C0
  have hfl := flat_of_before _ hgv
  have hA : ∀ a : Nat, a < s.heap.size → ¬ (fun q => s.heap.size ≤ q) a := fun a h => Nat.not_le.mpr h
  have hgs : ∀ w ∈ zs_gs, w.before #[Value.ref b] s = true := fun w h => hfl w (of_decide_eq_true (List.all_eq_true.mp zs_gs_ok w h))
  have hin : ∀ i, i < 8 → ∀ w ∈ ([.exactly (zs_tm i) "java/lang/String", .eq (.field (zs_tm i) "java/lang/String" "coder" "B") (.int 0), .arrayOf (.field (zs_tm i) "java/lang/String" "value" "[B") .byte, .eq (.length (.field (zs_tm i) "java/lang/String" "value" "[B")) (.int (Int32.ofNat (zLen.getD i 0)))] ++ (List.range (zLen.getD i 0)).map (fun j => .eq (.elem (.field (zs_tm i) "java/lang/String" "value" "[B") (.int (Int32.ofNat j))) (.int ((zByt.getD i []).getD j 0))) : List Cond), w.before #[Value.ref b] s = true := fun i hi w h => hgs w (List.mem_flatMap.mpr ⟨i, List.mem_range.mpr hi, h⟩)
  have hg := zs_gv_ok
  simp only [Bool.and_eq_true, decide_eq_true_eq] at hg
  obtain ⟨⟨⟨⟨⟨g1, g2⟩, g3⟩, g4⟩, g5⟩, g6⟩ := hg
  obtain ⟨kK, kV, hS, hev⟩ := vk_Sof (args := #[Value.ref b]) (s := s) (N := 8) (tm := zs_tm) (len := zLen) (byt := zByt) (A := fun q => s.heap.size ≤ q) (fun i hi => by
      have h8 : ∀ i, i < 8 → zLen.getD i 0 < 2 ^ 31 := by decide
      exact h8 i hi) (fun i hi => hin i hi _ (List.mem_append_left _ (List.mem_cons_self ..))) (fun i hi => hin i hi _ (List.mem_append_left _ (List.mem_cons_of_mem _ (List.mem_cons_self ..)))) (fun i hi => hin i hi _ (List.mem_append_left _ (List.mem_cons_of_mem _ (List.mem_cons_of_mem _ (List.mem_cons_self ..))))) (fun i hi => hin i hi _ (List.mem_append_left _ (List.mem_cons_of_mem _ (List.mem_cons_of_mem _ (List.mem_cons_of_mem _ (List.mem_cons_self ..)))))) (fun i hi j hj => hin i hi _ (List.mem_append_right _ (List.mem_map.mpr ⟨j, List.mem_range.mpr hj, rfl⟩))) (fun i j hi hj hne => by
      have h9 := List.all_eq_true.mp (List.all_eq_true.mp zs_ne_ok i (List.mem_range.mpr hi)) j (List.mem_range.mpr hj)
      rw [Bool.or_eq_true, Bool.or_eq_true, decide_eq_true_eq, decide_eq_true_eq] at h9
      rcases h9 with (h9 | h9) | h9
      · exact absurd (Nat.eq_of_beq_eq_true h9) hne
      · exact Or.inl (hfl _ h9)
      · exact Or.inr (hfl _ h9)) hA
  have hR : ∀ i, i < 8 → (Cond.stringRef RX1 (zWds.getD i (0, "")).1 (zWds.getD i (0, "")).2).before #[Value.ref b] s = true := fun i hi => by
    have h8 : ∀ i, i < 8 → zWds.getD i (0, "") ∈ zWds := by decide
    refine hw _ ?_
    unfold zs_ws
    simp only [List.mem_append]
    exact Or.inl (Or.inl (Or.inl (Or.inr (List.mem_map.mpr ⟨_, h8 i hi, rfl⟩))))
  have h1 : ∀ w ∈ ([.laysStatic Bundle.tN "UNASSIGNED_STACK" Bundle.steD, .laysStatic Bundle.tN "SUPPRESSED_SENTINEL" Bundle.listD, .initialized Bundle.tN, .laysStatic "java/lang/String" "COMPACT_STRINGS" "Z", .initialized "java/lang/String", .laysStatic "jdk/internal/util/Preconditions" "SIOOBE_FORMATTER" "Ljava/util/function/BiFunction;", .initialized "jdk/internal/util/Preconditions"] : List Cond), w.before #[Value.ref b] s = true := fun w h => hw w (by
    unfold zs_ws
    simp only [List.mem_append]
    exact Or.inl (Or.inl (Or.inl (Or.inl (Or.inl h)))))
  have h2 : ∀ w ∈ zMsg.map (fun q => Cond.stringRef RX4 q.1 q.2), w.before #[Value.ref b] s = true := fun w h => hw w (by
    unfold zs_ws
    simp only [List.mem_append]
    exact Or.inl (Or.inl (Or.inl (Or.inl (Or.inr h)))))
  have h3 : ∀ w ∈ zDecl.map Cond.declares, w.before #[Value.ref b] s = true := fun w h => hw w (by
    unfold zs_ws
    simp only [List.mem_append]
    exact Or.inl (Or.inl (Or.inr h)))
  have h4 : ∀ w ∈ zCast.map (fun q => Cond.castable q.1 q.2), w.before #[Value.ref b] s = true := fun w h => hw w (by
    unfold zs_ws
    simp only [List.mem_append]
    exact Or.inl (Or.inr h))
  simp only [List.forall_mem_cons] at h1
  obtain ⟨a1, a2, a3, a4, a5, a6, a7, -⟩ := h1
  refine ⟨kK, kV, fun ad e0 e1 => ⟨vx_Zqof a1 a3 (hfl _ g1) hA, vx_Zqof a2 a3 (hfl _ g2) hA, fun q hq => zs_R (h2 _ (List.mem_map.mpr ⟨q, hq, rfl⟩)), fun i hi => ?_, ?_, va_Zof a4 a5 (va_eqi (hfl _ g3)) hA, va_Zqof a6 a7 (hfl _ g4) hA, fun x hx => va_Nw.of rfl (h3 _ (List.mem_map.mpr ⟨x, hx, rfl⟩)), fun q hq => va_Nw.of rfl (h4 _ (List.mem_map.mpr ⟨q, hq, rfl⟩))⟩⟩
  · rw [e0]
    exact vk_R.of (hR i hi) (hev i hi)
  · rw [show (fun i => ad 6 i 0) = kK from funext e0, show (fun i => ad 6 i 1) = kV from funext e1]
    exact hS
theorem zs_N (C0 : lw_At p s m meth c b L xs) : (va_Nc (zEx 0) (zEx 2) s ∧ va_Nc (zEx 0) (zEx 1) s) ∧ va_AO RX2 s ∧ va_AO RX3 s ∧ va_Nw (.methodLinkNest RX4 25 yX1_init RX4) s ∧ va_Nw (.methodLinkNest RX4 32 yX0_init RX4) s ∧ va_Nw (.methodLinkNest RX4 55 yX2_init RX4) s ∧ (Cond.arrayClass .int).before #[Value.ref b] s = true ∧ (Cond.arrayClass .boolean).before #[Value.ref b] s = true := by
  have hw := zs_w C0
  obtain ⟨hx, hb, hr, hml, hown, hts, hX, hbl, hlocks, hgv⟩ := id C0
  have hfl := flat_of_before _ hgv
  have hg := zs_gv_ok
  simp only [Bool.and_eq_true, decide_eq_true_eq] at hg
  obtain ⟨⟨⟨⟨⟨g1, g2⟩, g3⟩, g4⟩, g5⟩, g6⟩ := hg
  have h1 : ∀ w ∈ ([.arrayClass .int, .arrayClass .boolean, .arrayOver (.object RX2), .arrayOver (.object RX3), .methodLinkNest RX4 25 yX1_init RX4, .methodLinkNest RX4 32 yX0_init RX4, .methodLinkNest RX4 55 yX2_init RX4] : List Cond), w.before #[Value.ref b] s = true := fun w h => hw w (by
    unfold zs_ws
    exact List.mem_append_right _ h)
  simp only [List.forall_mem_cons] at h1
  obtain ⟨a1, a2, a3, a4, a5, a6, a7, -⟩ := h1
  exact ⟨⟨va_Nc.of (hfl _ g5), va_Nc.of (hfl _ g6)⟩, va_AO.of a3, va_AO.of a4, va_Nw.of rfl a5, va_Nw.of rfl a6, va_Nw.of rfl a7, a1, a2⟩
theorem zs_inst : zCL.all (fun q => decide (Cond.instantiable q.1 q.2.2 ∈ zWS)) = true := by decide +kernel
theorem zs_K (C0 : lw_At p s m meth c b L xs) : ∃ (D : va_G) (ca : Nat → ClassId), va_K D zCL (zTL ca) s := by
  obtain ⟨-, n1, n2, -, -, -, n3, n4⟩ := zs_N C0
  obtain ⟨hx, hb, hr, hml, hown, hts, hX, hbl, hlocks, hgv⟩ := id C0
  have htz := zWS_of hts
  have hk : ∀ k : Nat, ∃ q : ClassId × (Nat → Nat), ∀ x : vw_C, zCL[k]? = some x → u_Kn s x.1 x.2.1 x.2.2 q.1 q.2 := by
    intro k
    cases h : zCL[k]? with
    | none => exact ⟨(0, fun _ => 0), fun x hx => by cases hx⟩
    | some x =>
      obtain ⟨cC, iS, hq⟩ := u_known (C := x.1) (T := x.2.1) (N := x.2.2) (n := x.2.2) htz (z_inFw h) (htz _ (of_decide_eq_true (List.all_eq_true.mp zs_inst x (List.mem_of_getElem? h))))
      exact ⟨(cC, iS), fun y hy => by cases hy; exact hq⟩
  obtain ⟨F, hF⟩ : ∃ F : Nat → ClassId × (Nat → Nat), ∀ (k : Nat) (x : vw_C), zCL[k]? = some x → u_Kn s x.1 x.2.1 x.2.2 (F k).1 (F k).2 := ⟨fun k => Classical.choose (hk k), fun k => Classical.choose_spec (hk k)⟩
  obtain ⟨c0, k0, m0, e01, e02, e03⟩ := Cond.arrayClass_spec n3
  obtain ⟨c1, k1, m1, e11, e12, e13⟩ := Cond.arrayClass_spec n4
  obtain ⟨m2, c2, k2, e21, -, e22, e23, e24⟩ := Cond.arrayOver_spec n1
  obtain ⟨m3, c3, k3, e31, -, e32, e33, e34⟩ := Cond.arrayOver_spec n2
  refine ⟨(fun k => (F k).1, fun k => (F k).2), fun k => match k with
    | 0 => c0
    | 1 => c1
    | 2 => c2
    | _ => c3, fun k q hq => hF k q hq, fun k q hq => ?_⟩
  match k, hq with
  | 0, hq => cases hq; exact ⟨fun n z => ⟨fun k h => (by cases h), k0, e02, m0, e03⟩, e01⟩
  | 1, hq => cases hq; exact ⟨fun n z => ⟨fun k h => (by cases h), k1, e12, m1, e13⟩, e11⟩
  | 2, hq => cases hq; exact ⟨fun n z => ⟨fun k h => (by cases h), k2, e22, m2, e23⟩, k2, m2, e22, e23, e21, e24⟩
  | 3, hq => cases hq; exact ⟨fun n z => ⟨fun k h => (by cases h), k3, e32, m3, e33⟩, k3, m3, e32, e33, e31, e34⟩
  | k + 4, hq => simp [zTL] at hq
end St
