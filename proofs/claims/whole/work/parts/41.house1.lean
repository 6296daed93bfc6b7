def zfl_X4 : List (Nat × (Nat × Nat)) := [(9, (0, 0)), (13, (0, 1)), (16, (0, 2)), (19, (0, 3)), (26, (0, 5)), (33, (0, 6)), (42, (0, 4)), (48, (0, 7)), (52, (0, 8)), (56, (0, 9)), (59, (0, 12)), (95, (5, 1)), (109, (2, 7)), (124, (2, 4)), (127, (2, 5)), (133, (4, 2)), (140, (4, 1)), (143, (4, 0)), (148, (4, 3)), (151, (4, 4)), (154, (4, 5)), (156, (4, 8)), (159, (4, 7)), (168, (0, 10)), (190, (2, 0)), (215, (2, 6)), (220, (2, 3)), (242, (0, 11)), (253, (2, 1)), (256, (2, 2)), (278, (4, 6))]
def zcs_X4 : List (Nat × zVV) := [(106, .inl 100000), (171, .inl 1000000)]
def zth_X4 : List (Nat × Nat) := [(73, 0), (101, 1), (237, 2)]
theorem zfl_X4_ok : zfl_X4.all (fun q => z_flb RX4 q.1 q.2.1 q.2.2) = true := by decide +kernel
theorem zcs_X4_ok : zcs_X4.all (fun q => z_csb RX4 q.1 q.2) = true := by decide +kernel
def zc_X4_checkVersion : zCD := [(0, .iload_n 0, 1, 0), (1, .ifCond .lt 8, 4, 9), (4, .iload_n 0, 5, 0), (5, .iconst 2, 6, 0), (6, .if_icmp .lt 13, 9, 19), (9, .new 73, 12, 0), (19, .return_, 20, 0)]
def zk_X4_checkVersion : List (Nat × List Nat) := []
def zl_X4_checkVersion : List (Nat × zCI) := []
def zM_X4_checkVersion : zMI := (z_look zfl_X4, z_look zl_X4_checkVersion, z_look zcs_X4, z_look zth_X4, 1, 0)
def zs_X4_checkVersion : List (Nat × Nat × Nat × Nat) := [(0, 0, 0, 0)]
def zF_X4_checkVersion : List zVV → zSG → Option zRR := z_fn zs_X4_checkVersion zM_X4_checkVersion zc_X4_checkVersion zk_X4_checkVersion (1, 6)
theorem zo_X4_checkVersion : z_okc cX4_checkVersion zc_X4_checkVersion = true := by decide +kernel
theorem zv_X4_checkVersion : z_kd [] zc_X4_checkVersion = true := by decide +kernel
set_option maxRecDepth 20000 in
theorem zt_X4_checkVersion (l : Launch) (hl : l.stackTraces = false) : zCt l yX4_checkVersion cX4_checkVersion 1 none (zrm 6 1 6) zF_X4_checkVersion := z_ct (own := RX4) (sh := zs_X4_checkVersion) (M := zM_X4_checkVersion) (cd := zc_X4_checkVersion) (cut := zk_X4_checkVersion) (by decide +kernel) rfl rfl rfl (z_fl_all zfl_X4_ok) (z_cs_all zcs_X4_ok) zo_X4_checkVersion (z_hthr (sites := [(9, 73)]) (by decide +kernel) (List.forall_mem_cons.mpr ⟨fun x hx => by have e := Option.some.inj (show some 0 = some x from hx); subst e; exact z_throw hl (x := 0) (ik := 73) (is := 229) (ic := 77) (text := "no such version") z_thb0 (by decide +kernel) (by decide) (by decide) (by decide), fun _ h => nomatch h⟩)) (z_hcal (L := zl_X4_checkVersion) zv_X4_checkVersion (fun _ h => nomatch h)) (by decide)
def zc_X4_checkKind : zCD := [(0, .iload_n 0, 1, 0), (1, .ifCond .lt 8, 4, 9), (4, .iload_n 0, 5, 0), (5, .iconst 4, 6, 0), (6, .if_icmp .lt 13, 9, 19), (9, .new 73, 12, 0), (19, .return_, 20, 0)]
def zk_X4_checkKind : List (Nat × List Nat) := []
def zl_X4_checkKind : List (Nat × zCI) := []
def zM_X4_checkKind : zMI := (z_look zfl_X4, z_look zl_X4_checkKind, z_look zcs_X4, z_look zth_X4, 1, 0)
def zs_X4_checkKind : List (Nat × Nat × Nat × Nat) := [(0, 0, 0, 0)]
def zF_X4_checkKind : List zVV → zSG → Option zRR := z_fn zs_X4_checkKind zM_X4_checkKind zc_X4_checkKind zk_X4_checkKind (1, 6)
theorem zo_X4_checkKind : z_okc cX4_checkKind zc_X4_checkKind = true := by decide +kernel
theorem zv_X4_checkKind : z_kd [] zc_X4_checkKind = true := by decide +kernel
set_option maxRecDepth 20000 in
theorem zt_X4_checkKind (l : Launch) (hl : l.stackTraces = false) : zCt l yX4_checkKind cX4_checkKind 1 none (zrm 6 1 6) zF_X4_checkKind := z_ct (own := RX4) (sh := zs_X4_checkKind) (M := zM_X4_checkKind) (cd := zc_X4_checkKind) (cut := zk_X4_checkKind) (by decide +kernel) rfl rfl rfl (z_fl_all zfl_X4_ok) (z_cs_all zcs_X4_ok) zo_X4_checkKind (z_hthr (sites := [(9, 73)]) (by decide +kernel) (List.forall_mem_cons.mpr ⟨fun x hx => by have e := Option.some.inj (show some 0 = some x from hx); subst e; exact z_throw hl (x := 0) (ik := 73) (is := 231) (ic := 77) (text := "no such kind") z_thb0 (by decide +kernel) (by decide) (by decide) (by decide), fun _ h => nomatch h⟩)) (z_hcal (L := zl_X4_checkKind) zv_X4_checkKind (fun _ h => nomatch h)) (by decide)
def zc_X4_checkField : zCD := [(0, .iload_n 0, 1, 0), (1, .ifCond .lt 9, 4, 10), (4, .iload_n 0, 5, 0), (5, .bipush 8, 7, 0), (7, .if_icmp .lt 13, 10, 20), (10, .new 73, 13, 0), (20, .return_, 21, 0)]
def zk_X4_checkField : List (Nat × List Nat) := []
def zl_X4_checkField : List (Nat × zCI) := []
def zM_X4_checkField : zMI := (z_look zfl_X4, z_look zl_X4_checkField, z_look zcs_X4, z_look zth_X4, 1, 0)
def zs_X4_checkField : List (Nat × Nat × Nat × Nat) := [(0, 0, 0, 0)]
def zF_X4_checkField : List zVV → zSG → Option zRR := z_fn zs_X4_checkField zM_X4_checkField zc_X4_checkField zk_X4_checkField (1, 6)
theorem zo_X4_checkField : z_okc cX4_checkField zc_X4_checkField = true := by decide +kernel
theorem zv_X4_checkField : z_kd [] zc_X4_checkField = true := by decide +kernel
set_option maxRecDepth 20000 in
theorem zt_X4_checkField (l : Launch) (hl : l.stackTraces = false) : zCt l yX4_checkField cX4_checkField 1 none (zrm 6 1 6) zF_X4_checkField := z_ct (own := RX4) (sh := zs_X4_checkField) (M := zM_X4_checkField) (cd := zc_X4_checkField) (cut := zk_X4_checkField) (by decide +kernel) rfl rfl rfl (z_fl_all zfl_X4_ok) (z_cs_all zcs_X4_ok) zo_X4_checkField (z_hthr (sites := [(10, 73)]) (by decide +kernel) (List.forall_mem_cons.mpr ⟨fun x hx => by have e := Option.some.inj (show some 0 = some x from hx); subst e; exact z_throw hl (x := 0) (ik := 73) (is := 233) (ic := 77) (text := "no such field") z_thb0 (by decide +kernel) (by decide) (by decide) (by decide), fun _ h => nomatch h⟩)) (z_hcal (L := zl_X4_checkField) zv_X4_checkField (fun _ h => nomatch h)) (by decide)
def zc_X4_checkKey : zCD := [(0, .iload_n 0, 1, 0), (1, .ifCond .lt 9, 4, 10), (4, .iload_n 0, 5, 0), (5, .bipush 8, 7, 0), (7, .if_icmp .lt 13, 10, 20), (10, .new 101, 13, 0), (20, .return_, 21, 0)]
def zk_X4_checkKey : List (Nat × List Nat) := []
def zl_X4_checkKey : List (Nat × zCI) := []
def zM_X4_checkKey : zMI := (z_look zfl_X4, z_look zl_X4_checkKey, z_look zcs_X4, z_look zth_X4, 1, 0)
def zs_X4_checkKey : List (Nat × Nat × Nat × Nat) := [(0, 0, 0, 0)]
def zF_X4_checkKey : List zVV → zSG → Option zRR := z_fn zs_X4_checkKey zM_X4_checkKey zc_X4_checkKey zk_X4_checkKey (1, 6)
theorem zo_X4_checkKey : z_okc cX4_checkKey zc_X4_checkKey = true := by decide +kernel
theorem zv_X4_checkKey : z_kd [] zc_X4_checkKey = true := by decide +kernel
set_option maxRecDepth 20000 in
theorem zt_X4_checkKey (l : Launch) (hl : l.stackTraces = false) : zCt l yX4_checkKey cX4_checkKey 1 none (zrm 6 1 6) zF_X4_checkKey := z_ct (own := RX4) (sh := zs_X4_checkKey) (M := zM_X4_checkKey) (cd := zc_X4_checkKey) (cut := zk_X4_checkKey) (by decide +kernel) rfl rfl rfl (z_fl_all zfl_X4_ok) (z_cs_all zcs_X4_ok) zo_X4_checkKey (z_hthr (sites := [(10, 101)]) (by decide +kernel) (List.forall_mem_cons.mpr ⟨fun x hx => by have e := Option.some.inj (show some 1 = some x from hx); subst e; exact z_throw hl (x := 1) (ik := 101) (is := 235) (ic := 105) (text := "no such key") z_thb1 (by decide +kernel) (by decide) (by decide) (by decide), fun _ h => nomatch h⟩)) (z_hcal (L := zl_X4_checkKey) zv_X4_checkKey (fun _ h => nomatch h)) (by decide)
def zc_X4_checkAsk : zCD := [(0, .iload_n 1, 1, 0), (1, .ifCond .lt 14, 4, 15), (4, .iload_n 1, 5, 0), (5, .aload_n 0, 6, 0), (6, .getfield 33, 9, 0), (9, .getfield 109, 12, 0), (12, .if_icmp .lt 13, 15, 25), (15, .new 237, 18, 0), (25, .return_, 26, 0)]
def zk_X4_checkAsk : List (Nat × List Nat) := []
def zl_X4_checkAsk : List (Nat × zCI) := []
def zM_X4_checkAsk : zMI := (z_look zfl_X4, z_look zl_X4_checkAsk, z_look zcs_X4, z_look zth_X4, 2, 0)
def zs_X4_checkAsk : List (Nat × Nat × Nat × Nat) := [(2, 0, 0, 0), (0, 0, 0, 0)]
def zF_X4_checkAsk : List zVV → zSG → Option zRR := z_fn zs_X4_checkAsk zM_X4_checkAsk zc_X4_checkAsk zk_X4_checkAsk (1, 6)
theorem zo_X4_checkAsk : z_okc cX4_checkAsk zc_X4_checkAsk = true := by decide +kernel
theorem zv_X4_checkAsk : z_kd [] zc_X4_checkAsk = true := by decide +kernel
set_option maxRecDepth 20000 in
theorem zt_X4_checkAsk (l : Launch) (hl : l.stackTraces = false) : zCt l yX4_checkAsk cX4_checkAsk 2 none (zrm 6 1 6) zF_X4_checkAsk := z_ct (own := RX4) (sh := zs_X4_checkAsk) (M := zM_X4_checkAsk) (cd := zc_X4_checkAsk) (cut := zk_X4_checkAsk) (by decide +kernel) rfl rfl rfl (z_fl_all zfl_X4_ok) (z_cs_all zcs_X4_ok) zo_X4_checkAsk (z_hthr (sites := [(15, 237)]) (by decide +kernel) (List.forall_mem_cons.mpr ⟨fun x hx => by have e := Option.some.inj (show some 2 = some x from hx); subst e; exact z_throwN hl (is := 239) (text := "no such ask") (by decide +kernel) (by decide) (by decide) (by decide), fun _ h => nomatch h⟩)) (z_hcal (L := zl_X4_checkAsk) zv_X4_checkAsk (fun _ h => nomatch h)) (by decide)
theorem zr_X4_checkAsk : ∀ vs g r, zF_X4_checkAsk vs g = some r → ∃ i rv, vs = .inr (.inl (0, i, 0)) :: rv ∧ i < z_ni 0 := fun vs g r h => z_chk_rec (z_fn_chk (sh := zs_X4_checkAsk) h).1 (Or.inl ⟨rfl, by decide⟩)
def zc_X4_layNumber : zCD := [(0, .bipush 24, 2, 0), (2, .istore_n 2, 3, 0), (3, .iload_n 2, 4, 0), (4, .ifCond .lt 47, 7, 51), (7, .aload_n 0, 8, 0), (8, .getfield 59, 11, 0), (11, .aload_n 0, 12, 0), (12, .getfield 9, 15, 0), (15, .arraylength, 16, 0), (16, .if_icmp .ge 29, 19, 45), (19, .aload_n 0, 20, 0), (20, .getfield 9, 23, 0), (23, .aload_n 0, 24, 0), (24, .getfield 59, 27, 0), (27, .iload_n 1, 28, 0), (28, .iload_n 2, 29, 0), (29, .iushr, 30, 0), (30, .sipush 255, 33, 0), (33, .iand, 34, 0), (34, .iastore, 35, 0), (35, .aload_n 0, 36, 0), (36, .dup, 37, 0), (37, .getfield 59, 40, 0), (40, .iconst 1, 41, 0), (41, .iadd, 42, 0), (42, .putfield 59, 45, 0), (45, .iinc 2 (-8), 48, 0), (48, .goto (-45), 51, 3), (51, .return_, 52, 0)]
def zk_X4_layNumber : List (Nat × List Nat) := [(3, [0, 1, 2])]
def zl_X4_layNumber : List (Nat × zCI) := []
def zM_X4_layNumber : zMI := (z_look zfl_X4, z_look zl_X4_layNumber, z_look zcs_X4, z_look zth_X4, 3, 0)
def zs_X4_layNumber : List (Nat × Nat × Nat × Nat) := [(2, 0, 0, 0), (0, 0, 0, 0)]
def zF_X4_layNumber : List zVV → zSG → Option zRR := z_fn zs_X4_layNumber zM_X4_layNumber zc_X4_layNumber zk_X4_layNumber (0, 0)
theorem zo_X4_layNumber : z_okc cX4_layNumber zc_X4_layNumber = true := by decide +kernel
theorem zv_X4_layNumber : z_kd [] zc_X4_layNumber = true := by decide +kernel
set_option maxRecDepth 20000 in
theorem zt_X4_layNumber (l : Launch) (hl : l.stackTraces = false) : zCt l yX4_layNumber cX4_layNumber 3 none (zrm 0 0 0) zF_X4_layNumber := z_ct (own := RX4) (sh := zs_X4_layNumber) (M := zM_X4_layNumber) (cd := zc_X4_layNumber) (cut := zk_X4_layNumber) (by decide +kernel) rfl rfl rfl (z_fl_all zfl_X4_ok) (z_cs_all zcs_X4_ok) zo_X4_layNumber (z_hthr (sites := []) (by decide +kernel) (fun _ h => nomatch h)) (z_hcal (L := zl_X4_layNumber) zv_X4_layNumber (fun _ h => nomatch h)) (by decide)
theorem zr_X4_layNumber : ∀ vs g r, zF_X4_layNumber vs g = some r → ∃ i rv, vs = .inr (.inl (0, i, 0)) :: rv ∧ i < z_ni 0 := fun vs g r h => z_chk_rec (z_fn_chk (sh := zs_X4_layNumber) h).1 (Or.inl ⟨rfl, by decide⟩)
def zc_X4_noisyFields : zCD := [(0, .iconst 0, 1, 0), (1, .istore_n 1, 2, 0), (2, .iconst 0, 3, 0), (3, .istore_n 2, 4, 0), (4, .iload_n 2, 5, 0), (5, .aload_n 0, 6, 0), (6, .getfield 19, 9, 0), (9, .arraylength, 10, 0), (10, .if_icmp .ge 21, 13, 31), (13, .aload_n 0, 14, 0), (14, .getfield 19, 17, 0), (17, .iload_n 2, 18, 0), (18, .baload, 19, 0), (19, .ifCond .eq 6, 22, 25), (22, .iinc 1 1, 25, 0), (25, .iinc 2 1, 28, 0), (28, .goto (-24), 31, 4), (31, .iload_n 1, 32, 0), (32, .ireturn, 33, 0)]
def zk_X4_noisyFields : List (Nat × List Nat) := [(4, [0, 1, 2])]
def zl_X4_noisyFields : List (Nat × zCI) := []
def zM_X4_noisyFields : zMI := (z_look zfl_X4, z_look zl_X4_noisyFields, z_look zcs_X4, z_look zth_X4, 3, 1)
def zs_X4_noisyFields : List (Nat × Nat × Nat × Nat) := [(2, 0, 0, 0)]
def zF_X4_noisyFields : List zVV → zSG → Option zRR := z_fn zs_X4_noisyFields zM_X4_noisyFields zc_X4_noisyFields zk_X4_noisyFields (0, 0)
theorem zo_X4_noisyFields : z_okc cX4_noisyFields zc_X4_noisyFields = true := by decide +kernel
theorem zv_X4_noisyFields : z_kd [] zc_X4_noisyFields = true := by decide +kernel
set_option maxRecDepth 20000 in
theorem zt_X4_noisyFields (l : Launch) (hl : l.stackTraces = false) : zCt l yX4_noisyFields cX4_noisyFields 3 (some .int) (zrm 0 0 0) zF_X4_noisyFields := z_ct (own := RX4) (sh := zs_X4_noisyFields) (M := zM_X4_noisyFields) (cd := zc_X4_noisyFields) (cut := zk_X4_noisyFields) (by decide +kernel) rfl rfl rfl (z_fl_all zfl_X4_ok) (z_cs_all zcs_X4_ok) zo_X4_noisyFields (z_hthr (sites := []) (by decide +kernel) (fun _ h => nomatch h)) (z_hcal (L := zl_X4_noisyFields) zv_X4_noisyFields (fun _ h => nomatch h)) (by decide)
theorem zr_X4_noisyFields : ∀ vs g r, zF_X4_noisyFields vs g = some r → ∃ i rv, vs = .inr (.inl (0, i, 0)) :: rv ∧ i < z_ni 0 := fun vs g r h => z_chk_rec (z_fn_chk (sh := zs_X4_noisyFields) h).1 (Or.inl ⟨rfl, by decide⟩)
def zc_X4_stepsOfTexts : zCD := [(0, .iconst 0, 1, 0), (1, .istore_n 1, 2, 0), (2, .iconst 0, 3, 0), (3, .istore_n 2, 4, 0), (4, .iload_n 2, 5, 0), (5, .aload_n 0, 6, 0), (6, .getfield 42, 9, 0), (9, .arraylength, 10, 0), (10, .if_icmp .ge 21, 13, 31), (13, .iload_n 1, 14, 0), (14, .aload_n 0, 15, 0), (15, .getfield 42, 18, 0), (18, .iload_n 2, 19, 0), (19, .aaload, 20, 0), (20, .getfield 95, 23, 0), (23, .iadd, 24, 0), (24, .istore_n 1, 25, 0), (25, .iinc 2 1, 28, 0), (28, .goto (-24), 31, 4), (31, .iload_n 1, 32, 0), (32, .ireturn, 33, 0)]
def zk_X4_stepsOfTexts : List (Nat × List Nat) := [(4, [0, 1, 2])]
def zl_X4_stepsOfTexts : List (Nat × zCI) := []
def zM_X4_stepsOfTexts : zMI := (z_look zfl_X4, z_look zl_X4_stepsOfTexts, z_look zcs_X4, z_look zth_X4, 3, 1)
def zs_X4_stepsOfTexts : List (Nat × Nat × Nat × Nat) := [(2, 0, 0, 0)]
def zF_X4_stepsOfTexts : List zVV → zSG → Option zRR := z_fn zs_X4_stepsOfTexts zM_X4_stepsOfTexts zc_X4_stepsOfTexts zk_X4_stepsOfTexts (0, 0)
theorem zo_X4_stepsOfTexts : z_okc cX4_stepsOfTexts zc_X4_stepsOfTexts = true := by decide +kernel
theorem zv_X4_stepsOfTexts : z_kd [] zc_X4_stepsOfTexts = true := by decide +kernel
set_option maxRecDepth 20000 in
theorem zt_X4_stepsOfTexts (l : Launch) (hl : l.stackTraces = false) : zCt l yX4_stepsOfTexts cX4_stepsOfTexts 3 (some .int) (zrm 0 0 0) zF_X4_stepsOfTexts := z_ct (own := RX4) (sh := zs_X4_stepsOfTexts) (M := zM_X4_stepsOfTexts) (cd := zc_X4_stepsOfTexts) (cut := zk_X4_stepsOfTexts) (by decide +kernel) rfl rfl rfl (z_fl_all zfl_X4_ok) (z_cs_all zcs_X4_ok) zo_X4_stepsOfTexts (z_hthr (sites := []) (by decide +kernel) (fun _ h => nomatch h)) (z_hcal (L := zl_X4_stepsOfTexts) zv_X4_stepsOfTexts (fun _ h => nomatch h)) (by decide)
theorem zr_X4_stepsOfTexts : ∀ vs g r, zF_X4_stepsOfTexts vs g = some r → ∃ i rv, vs = .inr (.inl (0, i, 0)) :: rv ∧ i < z_ni 0 := fun vs g r h => z_chk_rec (z_fn_chk (sh := zs_X4_stepsOfTexts) h).1 (Or.inl ⟨rfl, by decide⟩)
def zc_X4_forgetRuns : zCD := [(0, .aload_n 0, 1, 0), (1, .iconst 0, 2, 0), (2, .putfield 242, 5, 0), (5, .aload_n 0, 6, 0), (6, .iconst 0, 7, 0), (7, .putfield 168, 10, 0), (10, .return_, 11, 0)]
def zk_X4_forgetRuns : List (Nat × List Nat) := []
def zl_X4_forgetRuns : List (Nat × zCI) := []
def zM_X4_forgetRuns : zMI := (z_look zfl_X4, z_look zl_X4_forgetRuns, z_look zcs_X4, z_look zth_X4, 1, 0)
def zs_X4_forgetRuns : List (Nat × Nat × Nat × Nat) := [(2, 0, 0, 0)]
def zF_X4_forgetRuns : List zVV → zSG → Option zRR := z_fn zs_X4_forgetRuns zM_X4_forgetRuns zc_X4_forgetRuns zk_X4_forgetRuns (0, 0)
theorem zo_X4_forgetRuns : z_okc cX4_forgetRuns zc_X4_forgetRuns = true := by decide +kernel
theorem zv_X4_forgetRuns : z_kd [] zc_X4_forgetRuns = true := by decide +kernel
set_option maxRecDepth 20000 in
theorem zt_X4_forgetRuns (l : Launch) (hl : l.stackTraces = false) : zCt l yX4_forgetRuns cX4_forgetRuns 1 none (zrm 0 0 0) zF_X4_forgetRuns := z_ct (own := RX4) (sh := zs_X4_forgetRuns) (M := zM_X4_forgetRuns) (cd := zc_X4_forgetRuns) (cut := zk_X4_forgetRuns) (by decide +kernel) rfl rfl rfl (z_fl_all zfl_X4_ok) (z_cs_all zcs_X4_ok) zo_X4_forgetRuns (z_hthr (sites := []) (by decide +kernel) (fun _ h => nomatch h)) (z_hcal (L := zl_X4_forgetRuns) zv_X4_forgetRuns (fun _ h => nomatch h)) (by decide)
theorem zr_X4_forgetRuns : ∀ vs g r, zF_X4_forgetRuns vs g = some r → ∃ i rv, vs = .inr (.inl (0, i, 0)) :: rv ∧ i < z_ni 0 := fun vs g r h => z_chk_rec (z_fn_chk (sh := zs_X4_forgetRuns) h).1 (Or.inl ⟨rfl, by decide⟩)
def zc_X4_doAsk : zCD := [(0, .aload_n 0, 1, 0), (1, .getfield 33, 4, 0), (4, .getfield 190, 7, 0), (7, .iload_n 3, 8, 0), (8, .iaload, 9, 0), (9, .istore 4, 11, 0), (11, .aload_n 0, 12, 0), (12, .getfield 33, 15, 0), (15, .getfield 124, 18, 0), (18, .iload_n 3, 19, 0), (19, .iaload, 20, 0), (20, .istore 5, 22, 0), (22, .aload_n 0, 23, 0), (23, .getfield 33, 26, 0), (26, .getfield 127, 29, 0), (29, .iload_n 3, 30, 0), (30, .iaload, 31, 0), (31, .istore 6, 33, 0), (33, .aload_n 0, 34, 0), (34, .getfield 33, 37, 0), (37, .getfield 253, 40, 0), (40, .iload_n 3, 41, 0), (41, .iaload, 42, 0), (42, .istore 7, 44, 0), (44, .iload 5, 46, 0), (46, .iconst (-1), 47, 0), (47, .if_icmp .eq 29, 50, 76), (50, .aload_n 1, 51, 0), (51, .iload 5, 53, 0), (53, .iload 6, 55, 0), (55, .invokevirtual 136, 58, 0), (58, .ifCond .eq 18, 61, 76), (61, .aload_n 1, 62, 0), (62, .getfield 140, 65, 0), (65, .iload 5, 67, 0), (67, .bipush 8, 69, 0), (69, .imul, 70, 0), (70, .iload 6, 72, 0), (72, .iadd, 73, 0), (73, .iaload, 74, 0), (74, .istore 7, 76, 0), (76, .aload_n 1, 77, 0), (77, .aload_n 0, 78, 0), (78, .getfield 42, 81, 0), (81, .iload_n 2, 82, 0), (82, .iconst 4, 83, 0), (83, .imul, 84, 0), (84, .iload 4, 86, 0), (86, .iadd, 87, 0), (87, .aaload, 88, 0), (88, .iload_n 3, 89, 0), (89, .iload 4, 91, 0), (91, .iload 7, 93, 0), (93, .aload_n 0, 94, 0), (94, .getfield 33, 97, 0), (97, .getfield 256, 100, 0), (100, .iload_n 3, 101, 0), (101, .iaload, 102, 0), (102, .invokevirtual 259, 105, 0), (105, .return_, 106, 0)]
def zk_X4_doAsk : List (Nat × List Nat) := []
def zl_X4_doAsk : List (Nat × zCI) := [(136, (zF_X2_has, 3, 1, 0, 0)), (259, (zF_X2_obey, 6, 0, 0, 0))]
def zM_X4_doAsk : zMI := (z_look zfl_X4, z_look zl_X4_doAsk, z_look zcs_X4, z_look zth_X4, 8, 0)
def zs_X4_doAsk : List (Nat × Nat × Nat × Nat) := [(2, 0, 0, 0), (3, 4, 0, 0), (0, 0, 0, 0), (0, 0, 0, 0)]
def zF_X4_doAsk : List zVV → zSG → Option zRR := z_fn zs_X4_doAsk zM_X4_doAsk zc_X4_doAsk zk_X4_doAsk (0, 0)
theorem zo_X4_doAsk : z_okc cX4_doAsk zc_X4_doAsk = true := by decide +kernel
theorem zv_X4_doAsk : z_kd [136, 259] zc_X4_doAsk = true := by decide +kernel
set_option maxRecDepth 20000 in
theorem zt_X4_doAsk (l : Launch) (hl : l.stackTraces = false) : zCt l yX4_doAsk cX4_doAsk 8 none (zrm 3 0 0) zF_X4_doAsk := z_ct (own := RX4) (sh := zs_X4_doAsk) (M := zM_X4_doAsk) (cd := zc_X4_doAsk) (cut := zk_X4_doAsk) (by decide +kernel) rfl rfl rfl (z_fl_all zfl_X4_ok) (z_cs_all zcs_X4_ok) zo_X4_doAsk (z_hthr (sites := []) (by decide +kernel) (fun _ h => nomatch h)) (z_hcal (L := zl_X4_doAsk) zv_X4_doAsk (List.forall_mem_cons.mpr ⟨z_calV (l := l) (j := 136) (C := RX2) (cn := 4) (T := TX2) (N := 18) (zt_X2_has l) (by decide +kernel) (by decide +kernel) rfl ⟨by decide +kernel, by decide +kernel, by decide +kernel⟩ (z_room (by omega) (by decide)) rfl zr_X2_has, List.forall_mem_cons.mpr ⟨z_calV (l := l) (j := 259) (C := RX2) (cn := 4) (T := TX2) (N := 18) (zt_X2_obey l) (by decide +kernel) (by decide +kernel) rfl ⟨by decide +kernel, by decide +kernel, by decide +kernel⟩ (z_room (by omega) (by decide)) rfl zr_X2_obey, fun _ h => nomatch h⟩⟩)) (by decide)
theorem zr_X4_doAsk : ∀ vs g r, zF_X4_doAsk vs g = some r → ∃ i rv, vs = .inr (.inl (0, i, 0)) :: rv ∧ i < z_ni 0 := fun vs g r h => z_chk_rec (z_fn_chk (sh := zs_X4_doAsk) h).1 (Or.inl ⟨rfl, by decide⟩)
def zc_X4_doAll : zCD := [(0, .aload_n 1, 1, 0), (1, .aload_n 0, 2, 0), (2, .getfield 13, 5, 0), (5, .aload_n 0, 6, 0), (6, .getfield 16, 9, 0), (9, .iload_n 3, 10, 0), (10, .invokevirtual 246, 13, 0), (13, .iconst 0, 14, 0), (14, .istore 4, 16, 0), (16, .iload 4, 18, 0), (18, .aload_n 0, 19, 0), (19, .getfield 33, 22, 0), (22, .getfield 109, 25, 0), (25, .if_icmp .ge 25, 28, 50), (28, .aload_n 0, 29, 0), (29, .aload_n 1, 30, 0), (30, .iload_n 2, 31, 0), (31, .aload_n 0, 32, 0), (32, .getfield 33, 35, 0), (35, .getfield 215, 38, 0), (38, .iload 4, 40, 0), (40, .iaload, 41, 0), (41, .invokevirtual 250, 44, 0), (44, .iinc 4 1, 47, 0), (47, .goto (-31), 50, 16), (50, .return_, 51, 0)]
def zk_X4_doAll : List (Nat × List Nat) := [(16, [0, 1, 2, 4])]
def zl_X4_doAll : List (Nat × zCI) := [(246, (zF_X2_start, 4, 0, 0, 0)), (250, (zF_X4_doAsk, 4, 0, 0, 0))]
def zM_X4_doAll : zMI := (z_look zfl_X4, z_look zl_X4_doAll, z_look zcs_X4, z_look zth_X4, 5, 0)
def zs_X4_doAll : List (Nat × Nat × Nat × Nat) := [(2, 0, 0, 0), (3, 4, 0, 0), (0, 0, 0, 0), (0, 0, 0, 0)]
def zF_X4_doAll : List zVV → zSG → Option zRR := z_fn zs_X4_doAll zM_X4_doAll zc_X4_doAll zk_X4_doAll (0, 0)
theorem zo_X4_doAll : z_okc cX4_doAll zc_X4_doAll = true := by decide +kernel
theorem zv_X4_doAll : z_kd [246, 250] zc_X4_doAll = true := by decide +kernel
set_option maxRecDepth 20000 in
theorem zt_X4_doAll (l : Launch) (hl : l.stackTraces = false) : zCt l yX4_doAll cX4_doAll 5 none (zrm 4 0 0) zF_X4_doAll := z_ct (own := RX4) (sh := zs_X4_doAll) (M := zM_X4_doAll) (cd := zc_X4_doAll) (cut := zk_X4_doAll) (by decide +kernel) rfl rfl rfl (z_fl_all zfl_X4_ok) (z_cs_all zcs_X4_ok) zo_X4_doAll (z_hthr (sites := []) (by decide +kernel) (fun _ h => nomatch h)) (z_hcal (L := zl_X4_doAll) zv_X4_doAll (List.forall_mem_cons.mpr ⟨z_calV (l := l) (j := 246) (C := RX2) (cn := 4) (T := TX2) (N := 18) (zt_X2_start l) (by decide +kernel) (by decide +kernel) rfl ⟨by decide +kernel, by decide +kernel, by decide +kernel⟩ (z_room (by omega) (by decide)) rfl zr_X2_start, List.forall_mem_cons.mpr ⟨z_calV (l := l) (j := 250) (C := RX4) (cn := 0) (T := TX4) (N := 13) (zt_X4_doAsk l hl) (by decide +kernel) (by decide +kernel) rfl ⟨by decide +kernel, by decide +kernel, by decide +kernel⟩ (z_room (by omega) (by decide)) rfl zr_X4_doAsk, fun _ h => nomatch h⟩⟩)) (by decide)
theorem zr_X4_doAll : ∀ vs g r, zF_X4_doAll vs g = some r → ∃ i rv, vs = .inr (.inl (0, i, 0)) :: rv ∧ i < z_ni 0 := fun vs g r h => z_chk_rec (z_fn_chk (sh := zs_X4_doAll) h).1 (Or.inl ⟨rfl, by decide⟩)
def zc_X4_bringRuns : zCD := [(0, .aload_n 0, 1, 0), (1, .getfield 242, 4, 0), (4, .ifCond .eq 4, 7, 8), (7, .return_, 8, 0), (8, .iconst 0, 9, 0), (9, .istore_n 1, 10, 0), (10, .iload_n 1, 11, 0), (11, .iconst 2, 12, 0), (12, .if_icmp .ge 21, 15, 33), (15, .aload_n 0, 16, 0), (16, .aload_n 0, 17, 0), (17, .getfield 48, 20, 0), (20, .iload_n 1, 21, 0), (21, .aaload, 22, 0), (22, .iload_n 1, 23, 0), (23, .iconst 0, 24, 0), (24, .invokevirtual 172, 27, 0), (27, .iinc 1 1, 30, 0), (30, .goto (-20), 33, 10), (33, .aload_n 0, 34, 0), (34, .iconst 1, 35, 0), (35, .putfield 242, 38, 0), (38, .return_, 39, 0)]
def zk_X4_bringRuns : List (Nat × List Nat) := [(10, [0, 1])]
def zl_X4_bringRuns : List (Nat × zCI) := [(172, (zF_X4_doAll, 4, 0, 0, 0))]
def zM_X4_bringRuns : zMI := (z_look zfl_X4, z_look zl_X4_bringRuns, z_look zcs_X4, z_look zth_X4, 2, 0)
def zs_X4_bringRuns : List (Nat × Nat × Nat × Nat) := [(2, 0, 0, 0)]
def zF_X4_bringRuns : List zVV → zSG → Option zRR := z_fn zs_X4_bringRuns zM_X4_bringRuns zc_X4_bringRuns zk_X4_bringRuns (0, 0)
theorem zo_X4_bringRuns : z_okc cX4_bringRuns zc_X4_bringRuns = true := by decide +kernel
theorem zv_X4_bringRuns : z_kd [172] zc_X4_bringRuns = true := by decide +kernel
set_option maxRecDepth 20000 in
theorem zt_X4_bringRuns (l : Launch) (hl : l.stackTraces = false) : zCt l yX4_bringRuns cX4_bringRuns 2 none (zrm 5 0 0) zF_X4_bringRuns := z_ct (own := RX4) (sh := zs_X4_bringRuns) (M := zM_X4_bringRuns) (cd := zc_X4_bringRuns) (cut := zk_X4_bringRuns) (by decide +kernel) rfl rfl rfl (z_fl_all zfl_X4_ok) (z_cs_all zcs_X4_ok) zo_X4_bringRuns (z_hthr (sites := []) (by decide +kernel) (fun _ h => nomatch h)) (z_hcal (L := zl_X4_bringRuns) zv_X4_bringRuns (List.forall_mem_cons.mpr ⟨z_calV (l := l) (j := 172) (C := RX4) (cn := 0) (T := TX4) (N := 13) (zt_X4_doAll l hl) (by decide +kernel) (by decide +kernel) rfl ⟨by decide +kernel, by decide +kernel, by decide +kernel⟩ (z_room (by omega) (by decide)) rfl zr_X4_doAll, fun _ h => nomatch h⟩)) (by decide)
theorem zr_X4_bringRuns : ∀ vs g r, zF_X4_bringRuns vs g = some r → ∃ i rv, vs = .inr (.inl (0, i, 0)) :: rv ∧ i < z_ni 0 := fun vs g r h => z_chk_rec (z_fn_chk (sh := zs_X4_bringRuns) h).1 (Or.inl ⟨rfl, by decide⟩)
def zc_X4_learnFrom : zCD := [(0, .aload_n 2, 1, 0), (1, .getfield 133, 4, 0), (4, .iload_n 1, 5, 0), (5, .iaload, 6, 0), (6, .aload_n 3, 7, 0), (7, .getfield 133, 10, 0), (10, .iload_n 1, 11, 0), (11, .iaload, 12, 0), (12, .invokestatic 263, 15, 0), (15, .istore 4, 17, 0), (17, .iconst 0, 18, 0), (18, .istore 5, 20, 0), (20, .iconst 0, 21, 0), (21, .istore 6, 23, 0), (23, .iload 6, 25, 0), (25, .iload 4, 27, 0), (27, .if_icmp .ge 73, 30, 100), (30, .iload_n 1, 31, 0), (31, .bipush 8, 33, 0), (33, .imul, 34, 0), (34, .iload 6, 36, 0), (36, .iadd, 37, 0), (37, .istore 7, 39, 0), (39, .aload_n 0, 40, 0), (40, .getfield 33, 43, 0), (43, .getfield 190, 46, 0), (46, .iload_n 1, 47, 0), (47, .iaload, 48, 0), (48, .bipush 8, 50, 0), (50, .imul, 51, 0), (51, .iload 6, 53, 0), (53, .iadd, 54, 0), (54, .istore 8, 56, 0), (56, .aload_n 2, 57, 0), (57, .getfield 140, 60, 0), (60, .iload 7, 62, 0), (62, .iaload, 63, 0), (63, .aload_n 3, 64, 0), (64, .getfield 140, 67, 0), (67, .iload 7, 69, 0), (69, .iaload, 70, 0), (70, .if_icmp .eq 24, 73, 94), (73, .aload_n 0, 74, 0), (74, .getfield 19, 77, 0), (77, .iload 8, 79, 0), (79, .baload, 80, 0), (80, .ifCond .ne 14, 83, 94), (83, .aload_n 0, 84, 0), (84, .getfield 19, 87, 0), (87, .iload 8, 89, 0), (89, .iconst 1, 90, 0), (90, .bastore, 91, 0), (91, .iinc 5 1, 94, 0), (94, .iinc 6 1, 97, 0), (97, .goto (-74), 100, 23), (100, .iload 5, 102, 0), (102, .ireturn, 103, 0)]
def zk_X4_learnFrom : List (Nat × List Nat) := [(23, [0, 1, 2, 3, 4, 5, 6])]
def zl_X4_learnFrom : List (Nat × zCI) := [(263, (zF_min, 2, 1, 0, 0))]
def zM_X4_learnFrom : zMI := (z_look zfl_X4, z_look zl_X4_learnFrom, z_look zcs_X4, z_look zth_X4, 9, 1)
def zs_X4_learnFrom : List (Nat × Nat × Nat × Nat) := [(2, 0, 0, 0), (0, 0, 0, 0), (3, 4, 0, 0), (3, 4, 0, 0)]
def zF_X4_learnFrom : List zVV → zSG → Option zRR := z_fn zs_X4_learnFrom zM_X4_learnFrom zc_X4_learnFrom zk_X4_learnFrom (0, 0)
theorem zo_X4_learnFrom : z_okc cX4_learnFrom zc_X4_learnFrom = true := by decide +kernel
theorem zv_X4_learnFrom : z_kd [] zc_X4_learnFrom = true := by decide +kernel
set_option maxRecDepth 20000 in
theorem zt_X4_learnFrom (l : Launch) (hl : l.stackTraces = false) : zCt l yX4_learnFrom cX4_learnFrom 9 (some .int) (zrm 1 0 0) zF_X4_learnFrom := z_ct (own := RX4) (sh := zs_X4_learnFrom) (M := zM_X4_learnFrom) (cd := zc_X4_learnFrom) (cut := zk_X4_learnFrom) (by decide +kernel) rfl rfl rfl (z_fl_all zfl_X4_ok) (z_cs_all zcs_X4_ok) zo_X4_learnFrom (z_hthr (sites := []) (by decide +kernel) (fun _ h => nomatch h)) (z_hcal (L := zl_X4_learnFrom) zv_X4_learnFrom (List.forall_mem_cons.mpr ⟨z_calMin (l := l) (j := 263) (by decide +kernel) (by decide) (by decide), fun _ h => nomatch h⟩)) (by decide)
theorem zr_X4_learnFrom : ∀ vs g r, zF_X4_learnFrom vs g = some r → ∃ i rv, vs = .inr (.inl (0, i, 0)) :: rv ∧ i < z_ni 0 := fun vs g r h => z_chk_rec (z_fn_chk (sh := zs_X4_learnFrom) h).1 (Or.inl ⟨rfl, by decide⟩)
def zc_X4_whereDifferent : zCD := [(0, .aload_n 2, 1, 0), (1, .iconst 0, 2, 0), (2, .aaload, 3, 0), (3, .astore_n 3, 4, 0), (4, .aload_n 2, 5, 0), (5, .iconst 1, 6, 0), (6, .aaload, 7, 0), (7, .astore 4, 9, 0), (9, .aload_n 3, 10, 0), (10, .getfield 133, 13, 0), (13, .iload_n 1, 14, 0), (14, .iaload, 15, 0), (15, .aload 4, 17, 0), (17, .getfield 133, 20, 0), (20, .iload_n 1, 21, 0), (21, .iaload, 22, 0), (22, .invokestatic 263, 25, 0), (25, .istore 5, 27, 0), (27, .iconst 0, 28, 0), (28, .istore 6, 30, 0), (30, .iload 6, 32, 0), (32, .iload 5, 34, 0), (34, .if_icmp .ge 62, 37, 96), (37, .iload_n 1, 38, 0), (38, .bipush 8, 40, 0), (40, .imul, 41, 0), (41, .iload 6, 43, 0), (43, .iadd, 44, 0), (44, .istore 7, 46, 0), (46, .aload_n 3, 47, 0), (47, .getfield 140, 50, 0), (50, .iload 7, 52, 0), (52, .iaload, 53, 0), (53, .aload 4, 55, 0), (55, .getfield 140, 58, 0), (58, .iload 7, 60, 0), (60, .iaload, 61, 0), (61, .if_icmp .eq 29, 64, 90), (64, .aload_n 0, 65, 0), (65, .getfield 19, 68, 0), (68, .aload_n 0, 69, 0), (69, .getfield 33, 72, 0), (72, .getfield 190, 75, 0), (75, .iload_n 1, 76, 0), (76, .iaload, 77, 0), (77, .bipush 8, 79, 0), (79, .imul, 80, 0), (80, .iload 6, 82, 0), (82, .iadd, 83, 0), (83, .baload, 84, 0), (84, .ifCond .ne 6, 87, 90), (87, .iload 6, 89, 0), (89, .ireturn, 90, 0), (90, .iinc 6 1, 93, 0), (93, .goto (-63), 96, 30), (96, .aload_n 3, 97, 0), (97, .getfield 133, 100, 0), (100, .iload_n 1, 101, 0), (101, .iaload, 102, 0), (102, .aload 4, 104, 0), (104, .getfield 133, 107, 0), (107, .iload_n 1, 108, 0), (108, .iaload, 109, 0), (109, .if_icmp .ne 7, 112, 116), (112, .iconst (-1), 113, 0), (113, .goto 5, 116, 118), (116, .iload 5, 118, 0), (118, .ireturn, 119, 0)]
def zk_X4_whereDifferent : List (Nat × List Nat) := [(30, [0, 1, 3, 4, 5, 6])]
def zl_X4_whereDifferent : List (Nat × zCI) := [(263, (zF_min, 2, 1, 0, 0))]
def zM_X4_whereDifferent : zMI := (z_look zfl_X4, z_look zl_X4_whereDifferent, z_look zcs_X4, z_look zth_X4, 8, 1)
def zs_X4_whereDifferent : List (Nat × Nat × Nat × Nat) := [(2, 0, 0, 0), (0, 0, 0, 0), (4, 0, 0, 0)]
def zF_X4_whereDifferent : List zVV → zSG → Option zRR := z_fn zs_X4_whereDifferent zM_X4_whereDifferent zc_X4_whereDifferent zk_X4_whereDifferent (0, 0)
theorem zo_X4_whereDifferent : z_okc cX4_whereDifferent zc_X4_whereDifferent = true := by decide +kernel
theorem zv_X4_whereDifferent : z_kd [] zc_X4_whereDifferent = true := by decide +kernel
set_option maxRecDepth 20000 in
theorem zt_X4_whereDifferent (l : Launch) (hl : l.stackTraces = false) : zCt l yX4_whereDifferent cX4_whereDifferent 8 (some .int) (zrm 1 0 0) zF_X4_whereDifferent := z_ct (own := RX4) (sh := zs_X4_whereDifferent) (M := zM_X4_whereDifferent) (cd := zc_X4_whereDifferent) (cut := zk_X4_whereDifferent) (by decide +kernel) rfl rfl rfl (z_fl_all zfl_X4_ok) (z_cs_all zcs_X4_ok) zo_X4_whereDifferent (z_hthr (sites := []) (by decide +kernel) (fun _ h => nomatch h)) (z_hcal (L := zl_X4_whereDifferent) zv_X4_whereDifferent (List.forall_mem_cons.mpr ⟨z_calMin (l := l) (j := 263) (by decide +kernel) (by decide) (by decide), fun _ h => nomatch h⟩)) (by decide)
theorem zr_X4_whereDifferent : ∀ vs g r, zF_X4_whereDifferent vs g = some r → ∃ i rv, vs = .inr (.inl (0, i, 0)) :: rv ∧ i < z_ni 0 := fun vs g r h => z_chk_rec (z_fn_chk (sh := zs_X4_whereDifferent) h).1 (Or.inl ⟨rfl, by decide⟩)
