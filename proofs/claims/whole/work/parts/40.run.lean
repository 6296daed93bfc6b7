def zfl_J6 : List (Nat × (Nat × Nat)) := []
def zcs_J6 : List (Nat × zVV) := [(265, .inl 1431655765), (266, .inl 858993459), (267, .inl 252645135)]
def zth_J6 : List (Nat × Nat) := []
theorem zfl_J6_ok : zfl_J6.all (fun q => z_flb RJ6 q.1 q.2.1 q.2.2) = true := by decide +kernel
theorem zcs_J6_ok : zcs_J6.all (fun q => z_csb RJ6 q.1 q.2) = true := by decide +kernel
def zfl_J7 : List (Nat × (Nat × Nat)) := []
def zcs_J7 : List (Nat × zVV) := []
def zth_J7 : List (Nat × Nat) := []
theorem zfl_J7_ok : zfl_J7.all (fun q => z_flb RJ7 q.1 q.2.1 q.2.2) = true := by decide +kernel
theorem zcs_J7_ok : zcs_J7.all (fun q => z_csb RJ7 q.1 q.2) = true := by decide +kernel
def zc_J6_bitCount_0f7a4 : zCD := [(0, .iload_n 0, 1, 0), (1, .iload_n 0, 2, 0), (2, .iconst 1, 3, 0), (3, .iushr, 4, 0), (4, .ldc_w 265, 7, 0), (7, .iand, 8, 0), (8, .isub, 9, 0), (9, .istore_n 0, 10, 0), (10, .iload_n 0, 11, 0), (11, .ldc_w 266, 14, 0), (14, .iand, 15, 0), (15, .iload_n 0, 16, 0), (16, .iconst 2, 17, 0), (17, .iushr, 18, 0), (18, .ldc_w 266, 21, 0), (21, .iand, 22, 0), (22, .iadd, 23, 0), (23, .istore_n 0, 24, 0), (24, .iload_n 0, 25, 0), (25, .iload_n 0, 26, 0), (26, .iconst 4, 27, 0), (27, .iushr, 28, 0), (28, .iadd, 29, 0), (29, .ldc_w 267, 32, 0), (32, .iand, 33, 0), (33, .istore_n 0, 34, 0), (34, .iload_n 0, 35, 0), (35, .iload_n 0, 36, 0), (36, .bipush 8, 38, 0), (38, .iushr, 39, 0), (39, .iadd, 40, 0), (40, .istore_n 0, 41, 0), (41, .iload_n 0, 42, 0), (42, .iload_n 0, 43, 0), (43, .bipush 16, 45, 0), (45, .iushr, 46, 0), (46, .iadd, 47, 0), (47, .istore_n 0, 48, 0), (48, .iload_n 0, 49, 0), (49, .bipush 63, 51, 0), (51, .iand, 52, 0), (52, .ireturn, 53, 0)]
def zk_J6_bitCount_0f7a4 : List (Nat × List Nat) := []
def zl_J6_bitCount_0f7a4 : List (Nat × zCI) := []
def zM_J6_bitCount_0f7a4 : zMI := (z_look zfl_J6, z_look zl_J6_bitCount_0f7a4, z_look zcs_J6, z_look zth_J6, 1, 1)
def zs_J6_bitCount_0f7a4 : List (Nat × Nat × Nat × Nat) := [(0, 0, 0, 0)]
def zF_J6_bitCount_0f7a4 : List zVV → zSG → Option zRR := z_fn zs_J6_bitCount_0f7a4 zM_J6_bitCount_0f7a4 zc_J6_bitCount_0f7a4 zk_J6_bitCount_0f7a4 (0, 0)
theorem zo_J6_bitCount_0f7a4 : z_okc cJ6_bitCount_0f7a4 zc_J6_bitCount_0f7a4 = true := by decide +kernel
theorem zv_J6_bitCount_0f7a4 : z_kd [] zc_J6_bitCount_0f7a4 = true := by decide +kernel
set_option maxRecDepth 20000 in
theorem zt_J6_bitCount_0f7a4 (l : Launch) : zCt l yJ6_bitCount_0f7a4 cJ6_bitCount_0f7a4 1 (some .int) (zrm 0 0 0) zF_J6_bitCount_0f7a4 := z_ct (own := RJ6) (sh := zs_J6_bitCount_0f7a4) (M := zM_J6_bitCount_0f7a4) (cd := zc_J6_bitCount_0f7a4) (cut := zk_J6_bitCount_0f7a4) (by decide +kernel) rfl rfl rfl (z_fl_all zfl_J6_ok) (z_cs_all zcs_J6_ok) zo_J6_bitCount_0f7a4 z_nothr (z_hcal (L := zl_J6_bitCount_0f7a4) zv_J6_bitCount_0f7a4 (fun _ h => nomatch h)) (by decide)
def zc_J7_fill_53178 : zCD := [(0, .iconst 0, 1, 0), (1, .istore_n 2, 2, 0), (2, .aload_n 0, 3, 0), (3, .arraylength, 4, 0), (4, .istore_n 3, 5, 0), (5, .iload_n 2, 6, 0), (6, .iload_n 3, 7, 0), (7, .if_icmp .ge 13, 10, 20), (10, .aload_n 0, 11, 0), (11, .iload_n 2, 12, 0), (12, .iload_n 1, 13, 0), (13, .iastore, 14, 0), (14, .iinc 2 1, 17, 0), (17, .goto (-12), 20, 5), (20, .return_, 21, 0)]
def zk_J7_fill_53178 : List (Nat × List Nat) := [(5, [0, 1, 2, 3])]
def zl_J7_fill_53178 : List (Nat × zCI) := []
def zM_J7_fill_53178 : zMI := (z_look zfl_J7, z_look zl_J7_fill_53178, z_look zcs_J7, z_look zth_J7, 4, 0)
def zs_J7_fill_53178 : List (Nat × Nat × Nat × Nat) := [(3, 4, 0, 8), (0, 0, 0, 0)]
def zF_J7_fill_53178 : List zVV → zSG → Option zRR := z_fn zs_J7_fill_53178 zM_J7_fill_53178 zc_J7_fill_53178 zk_J7_fill_53178 (0, 0)
theorem zo_J7_fill_53178 : z_okc cJ7_fill_53178 zc_J7_fill_53178 = true := by decide +kernel
theorem zv_J7_fill_53178 : z_kd [] zc_J7_fill_53178 = true := by decide +kernel
set_option maxRecDepth 20000 in
theorem zt_J7_fill_53178 (l : Launch) : zCt l yJ7_fill_53178 cJ7_fill_53178 4 none (zrm 0 0 0) zF_J7_fill_53178 := z_ct (own := RJ7) (sh := zs_J7_fill_53178) (M := zM_J7_fill_53178) (cd := zc_J7_fill_53178) (cut := zk_J7_fill_53178) (by decide +kernel) rfl rfl rfl (z_fl_all zfl_J7_ok) (z_cs_all zcs_J7_ok) zo_J7_fill_53178 z_nothr (z_hcal (L := zl_J7_fill_53178) zv_J7_fill_53178 (fun _ h => nomatch h)) (by decide)
def zfl_X2 : List (Nat × (Nat × Nat)) := [(9, (4, 0)), (15, (4, 1)), (18, (4, 2)), (21, (4, 3)), (24, (4, 4)), (27, (4, 5)), (30, (4, 6)), (34, (4, 7)), (37, (4, 9)), (40, (4, 10)), (43, (4, 11)), (58, (4, 13)), (62, (4, 8)), (65, (4, 12)), (68, (4, 15)), (71, (4, 16)), (74, (4, 17)), (77, (4, 14)), (80, (5, 0))]
def zcs_X2 : List (Nat × zVV) := []
def zth_X2 : List (Nat × Nat) := []
theorem zfl_X2_ok : zfl_X2.all (fun q => z_flb RX2 q.1 q.2.1 q.2.2) = true := by decide +kernel
theorem zcs_X2_ok : zcs_X2.all (fun q => z_csb RX2 q.1 q.2) = true := by decide +kernel
def zfl_X0 : List (Nat × (Nat × Nat)) := [(9, (2, 0)), (15, (2, 1)), (18, (2, 2)), (21, (2, 3)), (24, (2, 4)), (27, (2, 5)), (30, (2, 6)), (33, (2, 7))]
def zcs_X0 : List (Nat × zVV) := []
def zth_X0 : List (Nat × Nat) := []
theorem zfl_X0_ok : zfl_X0.all (fun q => z_flb RX0 q.1 q.2.1 q.2.2) = true := by decide +kernel
theorem zcs_X0_ok : zcs_X0.all (fun q => z_csb RX0 q.1 q.2) = true := by decide +kernel
def zc_X2_mark : zCD := [(0, .aload_n 0, 1, 0), (1, .getfield 9, 4, 0), (4, .iconst 0, 5, 0), (5, .aload_n 0, 6, 0), (6, .getfield 40, 9, 0), (9, .iconst 0, 10, 0), (10, .bipush 8, 12, 0), (12, .invokestatic 46, 15, 0), (15, .aload_n 0, 16, 0), (16, .aload_n 0, 17, 0), (17, .getfield 58, 20, 0), (20, .putfield 65, 23, 0), (23, .return_, 24, 0)]
def zk_X2_mark : List (Nat × List Nat) := []
def zl_X2_mark : List (Nat × zCI) := [(46, (zF_acp, 5, 0, 0, 0))]
def zM_X2_mark : zMI := (z_look zfl_X2, z_look zl_X2_mark, z_look zcs_X2, z_look zth_X2, 1, 0)
def zs_X2_mark : List (Nat × Nat × Nat × Nat) := [(3, 4, 0, 0)]
def zF_X2_mark : List zVV → zSG → Option zRR := z_fn zs_X2_mark zM_X2_mark zc_X2_mark zk_X2_mark (0, 0)
theorem zo_X2_mark : z_okc cX2_mark zc_X2_mark = true := by decide +kernel
theorem zv_X2_mark : z_kd [] zc_X2_mark = true := by decide +kernel
set_option maxRecDepth 20000 in
theorem zt_X2_mark (l : Launch) : zCt l yX2_mark cX2_mark 1 none (zrm 1 0 0) zF_X2_mark := z_ct (own := RX2) (sh := zs_X2_mark) (M := zM_X2_mark) (cd := zc_X2_mark) (cut := zk_X2_mark) (by decide +kernel) rfl rfl rfl (z_fl_all zfl_X2_ok) (z_cs_all zcs_X2_ok) zo_X2_mark z_nothr (z_hcal (L := zl_X2_mark) zv_X2_mark (List.forall_mem_cons.mpr ⟨z_calAcp (l := l) (j := 46) (by decide +kernel) (by decide) (by decide +kernel), fun _ h => nomatch h⟩)) (by decide)
theorem zr_X2_mark : ∀ vs g r, zF_X2_mark vs g = some r → ∃ i rv, vs = .inr (.inl (4, i, 0)) :: rv ∧ i < z_ni 4 := fun vs g r h => z_chk_rec (z_fn_chk (sh := zs_X2_mark) h).1 (Or.inr rfl)
def zc_X2_backToMark : zCD := [(0, .aload_n 0, 1, 0), (1, .getfield 40, 4, 0), (4, .iconst 0, 5, 0), (5, .aload_n 0, 6, 0), (6, .getfield 9, 9, 0), (9, .iconst 0, 10, 0), (10, .bipush 8, 12, 0), (12, .invokestatic 46, 15, 0), (15, .aload_n 0, 16, 0), (16, .aload_n 0, 17, 0), (17, .getfield 65, 20, 0), (20, .putfield 58, 23, 0), (23, .return_, 24, 0)]
def zk_X2_backToMark : List (Nat × List Nat) := []
def zl_X2_backToMark : List (Nat × zCI) := [(46, (zF_acp, 5, 0, 0, 0))]
def zM_X2_backToMark : zMI := (z_look zfl_X2, z_look zl_X2_backToMark, z_look zcs_X2, z_look zth_X2, 1, 0)
def zs_X2_backToMark : List (Nat × Nat × Nat × Nat) := [(3, 4, 0, 0)]
def zF_X2_backToMark : List zVV → zSG → Option zRR := z_fn zs_X2_backToMark zM_X2_backToMark zc_X2_backToMark zk_X2_backToMark (0, 0)
theorem zo_X2_backToMark : z_okc cX2_backToMark zc_X2_backToMark = true := by decide +kernel
theorem zv_X2_backToMark : z_kd [] zc_X2_backToMark = true := by decide +kernel
set_option maxRecDepth 20000 in
theorem zt_X2_backToMark (l : Launch) : zCt l yX2_backToMark cX2_backToMark 1 none (zrm 1 0 0) zF_X2_backToMark := z_ct (own := RX2) (sh := zs_X2_backToMark) (M := zM_X2_backToMark) (cd := zc_X2_backToMark) (cut := zk_X2_backToMark) (by decide +kernel) rfl rfl rfl (z_fl_all zfl_X2_ok) (z_cs_all zcs_X2_ok) zo_X2_backToMark z_nothr (z_hcal (L := zl_X2_backToMark) zv_X2_backToMark (List.forall_mem_cons.mpr ⟨z_calAcp (l := l) (j := 46) (by decide +kernel) (by decide) (by decide +kernel), fun _ h => nomatch h⟩)) (by decide)
theorem zr_X2_backToMark : ∀ vs g r, zF_X2_backToMark vs g = some r → ∃ i rv, vs = .inr (.inl (4, i, 0)) :: rv ∧ i < z_ni 4 := fun vs g r h => z_chk_rec (z_fn_chk (sh := zs_X2_backToMark) h).1 (Or.inr rfl)
def zc_X2_has : zCD := [(0, .aload_n 0, 1, 0), (1, .getfield 30, 4, 0), (4, .iload_n 1, 5, 0), (5, .baload, 6, 0), (6, .ifCond .eq 21, 9, 27), (9, .iload_n 2, 10, 0), (10, .ifCond .lt 17, 13, 27), (13, .iload_n 2, 14, 0), (14, .aload_n 0, 15, 0), (15, .getfield 18, 18, 0), (18, .iload_n 1, 19, 0), (19, .iaload, 20, 0), (20, .if_icmp .ge 7, 23, 27), (23, .iconst 1, 24, 0), (24, .goto 4, 27, 28), (27, .iconst 0, 28, 0), (28, .ireturn, 29, 0)]
def zk_X2_has : List (Nat × List Nat) := []
def zl_X2_has : List (Nat × zCI) := []
def zM_X2_has : zMI := (z_look zfl_X2, z_look zl_X2_has, z_look zcs_X2, z_look zth_X2, 3, 2)
def zs_X2_has : List (Nat × Nat × Nat × Nat) := [(3, 4, 0, 0), (0, 0, 0, 0), (0, 0, 0, 0)]
def zF_X2_has : List zVV → zSG → Option zRR := z_fn zs_X2_has zM_X2_has zc_X2_has zk_X2_has (0, 0)
theorem zo_X2_has : z_okc cX2_has zc_X2_has = true := by decide +kernel
theorem zv_X2_has : z_kd [] zc_X2_has = true := by decide +kernel
set_option maxRecDepth 20000 in
theorem zt_X2_has (l : Launch) : zCt l yX2_has cX2_has 3 (some .boolean) (zrm 0 0 0) zF_X2_has := z_ct (own := RX2) (sh := zs_X2_has) (M := zM_X2_has) (cd := zc_X2_has) (cut := zk_X2_has) (by decide +kernel) rfl rfl rfl (z_fl_all zfl_X2_ok) (z_cs_all zcs_X2_ok) zo_X2_has z_nothr (z_hcal (L := zl_X2_has) zv_X2_has (fun _ h => nomatch h)) (by decide)
theorem zr_X2_has : ∀ vs g r, zF_X2_has vs g = some r → ∃ i rv, vs = .inr (.inl (4, i, 0)) :: rv ∧ i < z_ni 4 := fun vs g r h => z_chk_rec (z_fn_chk (sh := zs_X2_has) h).1 (Or.inr rfl)
def zc_X2_join : zCD := [(0, .iload_n 0, 1, 0), (1, .tableswitch 54 6 9 #[31, 35, 39, 43], 32, 0), (32, .iload_n 1, 33, 0), (33, .iload_n 2, 34, 0), (34, .iadd, 35, 0), (35, .ireturn, 36, 0), (36, .iload_n 1, 37, 0), (37, .iload_n 2, 38, 0), (38, .isub, 39, 0), (39, .ireturn, 40, 0), (40, .iload_n 1, 41, 0), (41, .iload_n 2, 42, 0), (42, .imul, 43, 0), (43, .ireturn, 44, 0), (44, .iload_n 1, 45, 0), (45, .iload_n 2, 46, 0), (46, .if_icmp .ge 7, 49, 53), (49, .iconst 1, 50, 0), (50, .goto 4, 53, 54), (53, .iconst 0, 54, 0), (54, .ireturn, 55, 0), (55, .iload_n 1, 56, 0), (56, .iload_n 2, 57, 0), (57, .if_icmp .ne 7, 60, 64), (60, .iconst 1, 61, 0), (61, .goto 4, 64, 65), (64, .iconst 0, 65, 0), (65, .ireturn, 66, 0)]
def zk_X2_join : List (Nat × List Nat) := []
def zl_X2_join : List (Nat × zCI) := []
def zM_X2_join : zMI := (z_look zfl_X2, z_look zl_X2_join, z_look zcs_X2, z_look zth_X2, 3, 1)
def zs_X2_join : List (Nat × Nat × Nat × Nat) := [(0, 0, 0, 0), (0, 0, 0, 0), (0, 0, 0, 0)]
def zF_X2_join : List zVV → zSG → Option zRR := z_fn zs_X2_join zM_X2_join zc_X2_join zk_X2_join (0, 0)
theorem zo_X2_join : z_okc cX2_join zc_X2_join = true := by decide +kernel
theorem zv_X2_join : z_kd [] zc_X2_join = true := by decide +kernel
set_option maxRecDepth 20000 in
theorem zt_X2_join (l : Launch) : zCt l yX2_join cX2_join 3 (some .int) (zrm 0 0 0) zF_X2_join := z_ct (own := RX2) (sh := zs_X2_join) (M := zM_X2_join) (cd := zc_X2_join) (cut := zk_X2_join) (by decide +kernel) rfl rfl rfl (z_fl_all zfl_X2_ok) (z_cs_all zcs_X2_ok) zo_X2_join z_nothr (z_hcal (L := zl_X2_join) zv_X2_join (fun _ h => nomatch h)) (by decide)
def zc_X2_read : zCD := [(0, .iload_n 1, 1, 0), (1, .bipush 7, 3, 0), (3, .iand, 4, 0), (4, .istore_n 2, 5, 0), (5, .aload_n 0, 6, 0), (6, .getfield 21, 9, 0), (9, .aload_n 0, 10, 0), (10, .getfield 68, 13, 0), (13, .dup2, 14, 0), (14, .iaload, 15, 0), (15, .iconst 1, 16, 0), (16, .iload_n 2, 17, 0), (17, .ishl, 18, 0), (18, .ior, 19, 0), (19, .iastore, 20, 0), (20, .aload_n 0, 21, 0), (21, .getfield 9, 24, 0), (24, .iload_n 2, 25, 0), (25, .iaload, 26, 0), (26, .ireturn, 27, 0)]
def zk_X2_read : List (Nat × List Nat) := []
def zl_X2_read : List (Nat × zCI) := []
def zM_X2_read : zMI := (z_look zfl_X2, z_look zl_X2_read, z_look zcs_X2, z_look zth_X2, 3, 1)
def zs_X2_read : List (Nat × Nat × Nat × Nat) := [(3, 4, 0, 0), (0, 0, 0, 0)]
def zF_X2_read : List zVV → zSG → Option zRR := z_fn zs_X2_read zM_X2_read zc_X2_read zk_X2_read (0, 0)
theorem zo_X2_read : z_okc cX2_read zc_X2_read = true := by decide +kernel
theorem zv_X2_read : z_kd [] zc_X2_read = true := by decide +kernel
set_option maxRecDepth 20000 in
theorem zt_X2_read (l : Launch) : zCt l yX2_read cX2_read 3 (some .int) (zrm 0 0 0) zF_X2_read := z_ct (own := RX2) (sh := zs_X2_read) (M := zM_X2_read) (cd := zc_X2_read) (cut := zk_X2_read) (by decide +kernel) rfl rfl rfl (z_fl_all zfl_X2_ok) (z_cs_all zcs_X2_ok) zo_X2_read z_nothr (z_hcal (L := zl_X2_read) zv_X2_read (fun _ h => nomatch h)) (by decide)
theorem zr_X2_read : ∀ vs g r, zF_X2_read vs g = some r → ∃ i rv, vs = .inr (.inl (4, i, 0)) :: rv ∧ i < z_ni 4 := fun vs g r h => z_chk_rec (z_fn_chk (sh := zs_X2_read) h).1 (Or.inr rfl)
def zc_X2_write : zCD := [(0, .iload_n 1, 1, 0), (1, .bipush 7, 3, 0), (3, .iand, 4, 0), (4, .istore_n 3, 5, 0), (5, .aload_n 0, 6, 0), (6, .getfield 24, 9, 0), (9, .aload_n 0, 10, 0), (10, .getfield 68, 13, 0), (13, .dup2, 14, 0), (14, .iaload, 15, 0), (15, .iconst 1, 16, 0), (16, .iload_n 3, 17, 0), (17, .ishl, 18, 0), (18, .ior, 19, 0), (19, .iastore, 20, 0), (20, .aload_n 0, 21, 0), (21, .getfield 9, 24, 0), (24, .iload_n 3, 25, 0), (25, .iload_n 2, 26, 0), (26, .iastore, 27, 0), (27, .return_, 28, 0)]
def zk_X2_write : List (Nat × List Nat) := []
def zl_X2_write : List (Nat × zCI) := []
def zM_X2_write : zMI := (z_look zfl_X2, z_look zl_X2_write, z_look zcs_X2, z_look zth_X2, 4, 0)
def zs_X2_write : List (Nat × Nat × Nat × Nat) := [(3, 4, 0, 0), (0, 0, 0, 0), (0, 0, 0, 0)]
def zF_X2_write : List zVV → zSG → Option zRR := z_fn zs_X2_write zM_X2_write zc_X2_write zk_X2_write (0, 0)
theorem zo_X2_write : z_okc cX2_write zc_X2_write = true := by decide +kernel
theorem zv_X2_write : z_kd [] zc_X2_write = true := by decide +kernel
set_option maxRecDepth 20000 in
theorem zt_X2_write (l : Launch) : zCt l yX2_write cX2_write 4 none (zrm 0 0 0) zF_X2_write := z_ct (own := RX2) (sh := zs_X2_write) (M := zM_X2_write) (cd := zc_X2_write) (cut := zk_X2_write) (by decide +kernel) rfl rfl rfl (z_fl_all zfl_X2_ok) (z_cs_all zcs_X2_ok) zo_X2_write z_nothr (z_hcal (L := zl_X2_write) zv_X2_write (fun _ h => nomatch h)) (by decide)
theorem zr_X2_write : ∀ vs g r, zF_X2_write vs g = some r → ∃ i rv, vs = .inr (.inl (4, i, 0)) :: rv ∧ i < z_ni 4 := fun vs g r h => z_chk_rec (z_fn_chk (sh := zs_X2_write) h).1 (Or.inr rfl)
def zc_X2_answer : zCD := [(0, .aload_n 0, 1, 0), (1, .getfield 18, 4, 0), (4, .aload_n 0, 5, 0), (5, .getfield 68, 8, 0), (8, .iaload, 9, 0), (9, .bipush 8, 11, 0), (11, .if_icmp .ge 39, 14, 50), (14, .aload_n 0, 15, 0), (15, .getfield 15, 18, 0), (18, .aload_n 0, 19, 0), (19, .getfield 68, 22, 0), (22, .bipush 8, 24, 0), (24, .imul, 25, 0), (25, .aload_n 0, 26, 0), (26, .getfield 18, 29, 0), (29, .aload_n 0, 30, 0), (30, .getfield 68, 33, 0), (33, .iaload, 34, 0), (34, .iadd, 35, 0), (35, .iload_n 1, 36, 0), (36, .iastore, 37, 0), (37, .aload_n 0, 38, 0), (38, .getfield 18, 41, 0), (41, .aload_n 0, 42, 0), (42, .getfield 68, 45, 0), (45, .dup2, 46, 0), (46, .iaload, 47, 0), (47, .iconst 1, 48, 0), (48, .iadd, 49, 0), (49, .iastore, 50, 0), (50, .return_, 51, 0)]
def zk_X2_answer : List (Nat × List Nat) := []
def zl_X2_answer : List (Nat × zCI) := []
def zM_X2_answer : zMI := (z_look zfl_X2, z_look zl_X2_answer, z_look zcs_X2, z_look zth_X2, 2, 0)
def zs_X2_answer : List (Nat × Nat × Nat × Nat) := [(3, 4, 0, 0), (0, 0, 0, 0)]
def zF_X2_answer : List zVV → zSG → Option zRR := z_fn zs_X2_answer zM_X2_answer zc_X2_answer zk_X2_answer (0, 0)
theorem zo_X2_answer : z_okc cX2_answer zc_X2_answer = true := by decide +kernel
theorem zv_X2_answer : z_kd [] zc_X2_answer = true := by decide +kernel
set_option maxRecDepth 20000 in
theorem zt_X2_answer (l : Launch) : zCt l yX2_answer cX2_answer 2 none (zrm 0 0 0) zF_X2_answer := z_ct (own := RX2) (sh := zs_X2_answer) (M := zM_X2_answer) (cd := zc_X2_answer) (cut := zk_X2_answer) (by decide +kernel) rfl rfl rfl (z_fl_all zfl_X2_ok) (z_cs_all zcs_X2_ok) zo_X2_answer z_nothr (z_hcal (L := zl_X2_answer) zv_X2_answer (fun _ h => nomatch h)) (by decide)
theorem zr_X2_answer : ∀ vs g r, zF_X2_answer vs g = some r → ∃ i rv, vs = .inr (.inl (4, i, 0)) :: rv ∧ i < z_ni 4 := fun vs g r h => z_chk_rec (z_fn_chk (sh := zs_X2_answer) h).1 (Or.inr rfl)
def zc_X2_push : zCD := [(0, .aload_n 0, 1, 0), (1, .getfield 77, 4, 0), (4, .aload_n 0, 5, 0), (5, .getfield 43, 8, 0), (8, .arraylength, 9, 0), (9, .if_icmp .ge 23, 12, 32), (12, .aload_n 0, 13, 0), (13, .getfield 43, 16, 0), (16, .aload_n 0, 17, 0), (17, .getfield 77, 20, 0), (20, .iload_n 1, 21, 0), (21, .iastore, 22, 0), (22, .aload_n 0, 23, 0), (23, .dup, 24, 0), (24, .getfield 77, 27, 0), (27, .iconst 1, 28, 0), (28, .iadd, 29, 0), (29, .putfield 77, 32, 0), (32, .return_, 33, 0)]
def zk_X2_push : List (Nat × List Nat) := []
def zl_X2_push : List (Nat × zCI) := []
def zM_X2_push : zMI := (z_look zfl_X2, z_look zl_X2_push, z_look zcs_X2, z_look zth_X2, 2, 0)
def zs_X2_push : List (Nat × Nat × Nat × Nat) := [(3, 4, 0, 0), (0, 0, 0, 0)]
def zF_X2_push : List zVV → zSG → Option zRR := z_fn zs_X2_push zM_X2_push zc_X2_push zk_X2_push (0, 0)
theorem zo_X2_push : z_okc cX2_push zc_X2_push = true := by decide +kernel
theorem zv_X2_push : z_kd [] zc_X2_push = true := by decide +kernel
set_option maxRecDepth 20000 in
theorem zt_X2_push (l : Launch) : zCt l yX2_push cX2_push 2 none (zrm 0 0 0) zF_X2_push := z_ct (own := RX2) (sh := zs_X2_push) (M := zM_X2_push) (cd := zc_X2_push) (cut := zk_X2_push) (by decide +kernel) rfl rfl rfl (z_fl_all zfl_X2_ok) (z_cs_all zcs_X2_ok) zo_X2_push z_nothr (z_hcal (L := zl_X2_push) zv_X2_push (fun _ h => nomatch h)) (by decide)
theorem zr_X2_push : ∀ vs g r, zF_X2_push vs g = some r → ∃ i rv, vs = .inr (.inl (4, i, 0)) :: rv ∧ i < z_ni 4 := fun vs g r h => z_chk_rec (z_fn_chk (sh := zs_X2_push) h).1 (Or.inr rfl)
def zc_X2_pop : zCD := [(0, .aload_n 0, 1, 0), (1, .getfield 77, 4, 0), (4, .ifCond .gt 5, 7, 9), (7, .iconst 0, 8, 0), (8, .ireturn, 9, 0), (9, .aload_n 0, 10, 0), (10, .dup, 11, 0), (11, .getfield 77, 14, 0), (14, .iconst 1, 15, 0), (15, .isub, 16, 0), (16, .putfield 77, 19, 0), (19, .aload_n 0, 20, 0), (20, .getfield 43, 23, 0), (23, .aload_n 0, 24, 0), (24, .getfield 77, 27, 0), (27, .iaload, 28, 0), (28, .ireturn, 29, 0)]
def zk_X2_pop : List (Nat × List Nat) := []
def zl_X2_pop : List (Nat × zCI) := []
def zM_X2_pop : zMI := (z_look zfl_X2, z_look zl_X2_pop, z_look zcs_X2, z_look zth_X2, 1, 1)
def zs_X2_pop : List (Nat × Nat × Nat × Nat) := [(3, 4, 0, 0)]
def zF_X2_pop : List zVV → zSG → Option zRR := z_fn zs_X2_pop zM_X2_pop zc_X2_pop zk_X2_pop (0, 0)
theorem zo_X2_pop : z_okc cX2_pop zc_X2_pop = true := by decide +kernel
theorem zv_X2_pop : z_kd [] zc_X2_pop = true := by decide +kernel
set_option maxRecDepth 20000 in
theorem zt_X2_pop (l : Launch) : zCt l yX2_pop cX2_pop 1 (some .int) (zrm 0 0 0) zF_X2_pop := z_ct (own := RX2) (sh := zs_X2_pop) (M := zM_X2_pop) (cd := zc_X2_pop) (cut := zk_X2_pop) (by decide +kernel) rfl rfl rfl (z_fl_all zfl_X2_ok) (z_cs_all zcs_X2_ok) zo_X2_pop z_nothr (z_hcal (L := zl_X2_pop) zv_X2_pop (fun _ h => nomatch h)) (by decide)
theorem zr_X2_pop : ∀ vs g r, zF_X2_pop vs g = some r → ∃ i rv, vs = .inr (.inl (4, i, 0)) :: rv ∧ i < z_ni 4 := fun vs g r h => z_chk_rec (z_fn_chk (sh := zs_X2_pop) h).1 (Or.inr rfl)
def zc_X2_work : zCD := [(0, .iload_n 1, 1, 0), (1, .tableswitch 134 0 5 #[39, 47, 58, 69, 90, 105], 40, 0), (40, .aload_n 0, 41, 0), (41, .iload_n 2, 42, 0), (42, .invokevirtual 106, 45, 0), (45, .goto 108, 48, 153), (48, .aload_n 0, 49, 0), (49, .aload_n 0, 50, 0), (50, .getfield 71, 53, 0), (53, .invokevirtual 106, 56, 0), (56, .goto 97, 59, 153), (59, .aload_n 0, 60, 0), (60, .aload_n 0, 61, 0), (61, .getfield 74, 64, 0), (64, .invokevirtual 106, 67, 0), (67, .goto 86, 70, 153), (70, .aload_n 0, 71, 0), (71, .dup, 72, 0), (72, .getfield 58, 75, 0), (75, .iconst 1, 76, 0), (76, .iadd, 77, 0), (77, .putfield 58, 80, 0), (80, .aload_n 0, 81, 0), (81, .aload_n 0, 82, 0), (82, .getfield 58, 85, 0), (85, .invokevirtual 106, 88, 0), (88, .goto 65, 91, 153), (91, .aload_n 0, 92, 0), (92, .aload_n 0, 93, 0), (93, .aload_n 0, 94, 0), (94, .invokevirtual 89, 97, 0), (97, .invokevirtual 109, 100, 0), (100, .invokevirtual 106, 103, 0), (103, .goto 50, 106, 153), (106, .aload_n 0, 107, 0), (107, .dup, 108, 0), (108, .getfield 62, 111, 0), (111, .iconst 1, 112, 0), (112, .iadd, 113, 0), (113, .putfield 62, 116, 0), (116, .aload_n 0, 117, 0), (117, .aload_n 0, 118, 0), (118, .getfield 37, 121, 0), (121, .aload_n 0, 122, 0), (122, .invokevirtual 89, 125, 0), (125, .bipush 15, 127, 0), (127, .iand, 128, 0), (128, .iaload, 129, 0), (129, .invokevirtual 106, 132, 0), (132, .goto 21, 135, 153), (135, .aload_n 0, 136, 0), (136, .invokevirtual 89, 139, 0), (139, .istore_n 3, 140, 0), (140, .aload_n 0, 141, 0), (141, .iload_n 1, 142, 0), (142, .aload_n 0, 143, 0), (143, .invokevirtual 89, 146, 0), (146, .iload_n 3, 147, 0), (147, .invokestatic 113, 150, 0), (150, .invokevirtual 106, 153, 0), (153, .return_, 154, 0)]
def zk_X2_work : List (Nat × List Nat) := []
def zl_X2_work : List (Nat × zCI) := [(106, (zF_X2_push, 2, 0, 0, 0)), (89, (zF_X2_pop, 1, 1, 0, 0)), (109, (zF_X2_read, 2, 1, 0, 0)), (113, (zF_X2_join, 3, 1, 0, 0))]
def zM_X2_work : zMI := (z_look zfl_X2, z_look zl_X2_work, z_look zcs_X2, z_look zth_X2, 4, 0)
def zs_X2_work : List (Nat × Nat × Nat × Nat) := [(3, 4, 0, 0), (0, 0, 0, 0), (0, 0, 0, 0)]
def zF_X2_work : List zVV → zSG → Option zRR := z_fn zs_X2_work zM_X2_work zc_X2_work zk_X2_work (0, 0)
theorem zo_X2_work : z_okc cX2_work zc_X2_work = true := by decide +kernel
theorem zv_X2_work : z_kd [106, 89, 109] zc_X2_work = true := by decide +kernel
set_option maxRecDepth 20000 in
theorem zt_X2_work (l : Launch) : zCt l yX2_work cX2_work 4 none (zrm 1 0 0) zF_X2_work := z_ct (own := RX2) (sh := zs_X2_work) (M := zM_X2_work) (cd := zc_X2_work) (cut := zk_X2_work) (by decide +kernel) rfl rfl rfl (z_fl_all zfl_X2_ok) (z_cs_all zcs_X2_ok) zo_X2_work z_nothr (z_hcal (L := zl_X2_work) zv_X2_work (List.forall_mem_cons.mpr ⟨z_calV (l := l) (j := 106) (C := RX2) (cn := 4) (T := TX2) (N := 18) (zt_X2_push l) (by decide +kernel) (by decide +kernel) rfl ⟨by decide +kernel, by decide +kernel, by decide +kernel⟩ (z_room (by omega) (by decide)) rfl zr_X2_push, List.forall_mem_cons.mpr ⟨z_calV (l := l) (j := 89) (C := RX2) (cn := 4) (T := TX2) (N := 18) (zt_X2_pop l) (by decide +kernel) (by decide +kernel) rfl ⟨by decide +kernel, by decide +kernel, by decide +kernel⟩ (z_room (by omega) (by decide)) rfl zr_X2_pop, List.forall_mem_cons.mpr ⟨z_calV (l := l) (j := 109) (C := RX2) (cn := 4) (T := TX2) (N := 18) (zt_X2_read l) (by decide +kernel) (by decide +kernel) rfl ⟨by decide +kernel, by decide +kernel, by decide +kernel⟩ (z_room (by omega) (by decide)) rfl zr_X2_read, List.forall_mem_cons.mpr ⟨z_calS (l := l) (j := 113) (zt_X2_join l) (by decide +kernel) (by decide +kernel) ⟨by decide +kernel, by decide +kernel, by decide +kernel⟩ (z_room (by omega) (by decide)), fun _ h => nomatch h⟩⟩⟩⟩)) (by decide)
theorem zr_X2_work : ∀ vs g r, zF_X2_work vs g = some r → ∃ i rv, vs = .inr (.inl (4, i, 0)) :: rv ∧ i < z_ni 4 := fun vs g r h => z_chk_rec (z_fn_chk (sh := zs_X2_work) h).1 (Or.inr rfl)
def zc_X2_start : zCD := [(0, .aload_n 1, 1, 0), (1, .iconst 0, 2, 0), (2, .aload_n 0, 3, 0), (3, .getfield 9, 6, 0), (6, .iconst 0, 7, 0), (7, .bipush 8, 9, 0), (9, .invokestatic 46, 12, 0), (12, .aload_n 2, 13, 0), (13, .iconst 0, 14, 0), (14, .aload_n 0, 15, 0), (15, .getfield 37, 18, 0), (18, .iconst 0, 19, 0), (19, .bipush 16, 21, 0), (21, .invokestatic 46, 24, 0), (24, .aload_n 0, 25, 0), (25, .getfield 34, 28, 0), (28, .iconst 0, 29, 0), (29, .invokestatic 52, 32, 0), (32, .iconst 0, 33, 0), (33, .istore 4, 35, 0), (35, .iload 4, 37, 0), (37, .bipush 30, 39, 0), (39, .if_icmp .ge 17, 42, 56), (42, .aload_n 0, 43, 0), (43, .getfield 30, 46, 0), (46, .iload 4, 48, 0), (48, .iconst 0, 49, 0), (49, .bastore, 50, 0), (50, .iinc 4 1, 53, 0), (53, .goto (-18), 56, 35), (56, .aload_n 0, 57, 0), (57, .iload_n 3, 58, 0), (58, .putfield 58, 61, 0), (61, .aload_n 0, 62, 0), (62, .iconst 0, 63, 0), (63, .putfield 62, 66, 0), (66, .return_, 67, 0)]
def zk_X2_start : List (Nat × List Nat) := [(35, [0, 3, 4])]
def zl_X2_start : List (Nat × zCI) := [(46, (zF_acp, 5, 0, 0, 0)), (52, (zF_J7_fill_53178, 2, 0, 0, 0))]
def zM_X2_start : zMI := (z_look zfl_X2, z_look zl_X2_start, z_look zcs_X2, z_look zth_X2, 5, 0)
def zs_X2_start : List (Nat × Nat × Nat × Nat) := [(3, 4, 0, 0), (2, 0, 0, 2), (2, 0, 0, 3), (0, 0, 0, 0)]
def zF_X2_start : List zVV → zSG → Option zRR := z_fn zs_X2_start zM_X2_start zc_X2_start zk_X2_start (0, 0)
theorem zo_X2_start : z_okc cX2_start zc_X2_start = true := by decide +kernel
theorem zv_X2_start : z_kd [] zc_X2_start = true := by decide +kernel
set_option maxRecDepth 20000 in
theorem zt_X2_start (l : Launch) : zCt l yX2_start cX2_start 5 none (zrm 1 0 0) zF_X2_start := z_ct (own := RX2) (sh := zs_X2_start) (M := zM_X2_start) (cd := zc_X2_start) (cut := zk_X2_start) (by decide +kernel) rfl rfl rfl (z_fl_all zfl_X2_ok) (z_cs_all zcs_X2_ok) zo_X2_start z_nothr (z_hcal (L := zl_X2_start) zv_X2_start (List.forall_mem_cons.mpr ⟨z_calAcp (l := l) (j := 46) (by decide +kernel) (by decide) (by decide +kernel), List.forall_mem_cons.mpr ⟨z_calS (l := l) (j := 52) (zt_J7_fill_53178 l) (by decide +kernel) (by decide +kernel) ⟨by decide +kernel, by decide +kernel, by decide +kernel⟩ (z_room (by omega) (by decide)), fun _ h => nomatch h⟩⟩)) (by decide)
theorem zr_X2_start : ∀ vs g r, zF_X2_start vs g = some r → ∃ i rv, vs = .inr (.inl (4, i, 0)) :: rv ∧ i < z_ni 4 := fun vs g r h => z_chk_rec (z_fn_chk (sh := zs_X2_start) h).1 (Or.inr rfl)
def zc_X2_obey : zCD := [(0, .aload_n 0, 1, 0), (1, .iload_n 2, 2, 0), (2, .putfield 68, 5, 0), (5, .aload_n 0, 6, 0), (6, .iload 4, 8, 0), (8, .putfield 71, 11, 0), (11, .aload_n 0, 12, 0), (12, .iload 5, 14, 0), (14, .putfield 74, 17, 0), (17, .aload_n 0, 18, 0), (18, .getfield 18, 21, 0), (21, .iload_n 2, 22, 0), (22, .iconst 0, 23, 0), (23, .iastore, 24, 0), (24, .aload_n 0, 25, 0), (25, .getfield 21, 28, 0), (28, .iload_n 2, 29, 0), (29, .iconst 0, 30, 0), (30, .iastore, 31, 0), (31, .aload_n 0, 32, 0), (32, .getfield 24, 35, 0), (35, .iload_n 2, 36, 0), (36, .iconst 0, 37, 0), (37, .iastore, 38, 0), (38, .aload_n 0, 39, 0), (39, .getfield 27, 42, 0), (42, .iload_n 2, 43, 0), (43, .iconst 0, 44, 0), (44, .iastore, 45, 0), (45, .aload_n 0, 46, 0), (46, .iconst 0, 47, 0), (47, .putfield 77, 50, 0), (50, .iconst 0, 51, 0), (51, .istore 6, 53, 0), (53, .iload 6, 55, 0), (55, .aload_n 1, 56, 0), (56, .getfield 80, 59, 0), (59, .arraylength, 60, 0), (60, .if_icmp .ge 139, 63, 199), (63, .aload_n 1, 64, 0), (64, .getfield 80, 67, 0), (67, .iload 6, 69, 0), (69, .iaload, 70, 0), (70, .bipush 15, 72, 0), (72, .iand, 73, 0), (73, .istore 7, 75, 0), (75, .aload_n 1, 76, 0), (76, .getfield 80, 79, 0), (79, .iload 6, 81, 0), (81, .iaload, 82, 0), (82, .iconst 4, 83, 0), (83, .iushr, 84, 0), (84, .istore 8, 86, 0), (86, .iinc 6 1, 89, 0), (89, .iload 7, 91, 0), (91, .bipush 11, 93, 0), (93, .if_icmp .ge 14, 96, 107), (96, .aload_n 0, 97, 0), (97, .iload 7, 99, 0), (99, .iload 8, 101, 0), (101, .invokevirtual 85, 104, 0), (104, .goto 92, 107, 196), (107, .aload_n 0, 108, 0), (108, .getfield 34, 111, 0), (111, .iload_n 3, 112, 0), (112, .dup2, 113, 0), (113, .iaload, 114, 0), (114, .iconst 1, 115, 0), (115, .iload 8, 117, 0), (117, .bipush 31, 119, 0), (119, .iand, 120, 0), (120, .ishl, 121, 0), (121, .ior, 122, 0), (122, .iastore, 123, 0), (123, .aload_n 0, 124, 0), (124, .getfield 27, 127, 0), (127, .iload_n 2, 128, 0), (128, .dup2, 129, 0), (129, .iaload, 130, 0), (130, .iconst 1, 131, 0), (131, .iadd, 132, 0), (132, .iastore, 133, 0), (133, .aload_n 0, 134, 0), (134, .invokevirtual 89, 137, 0), (137, .istore 9, 139, 0), (139, .iload 7, 141, 0), (141, .bipush 13, 143, 0), (143, .if_icmp .ne 27, 146, 170), (146, .iload 9, 148, 0), (148, .ifCond .eq 8, 151, 156), (151, .iload 6, 153, 0), (153, .goto 12, 156, 165), (156, .iload 6, 158, 0), (158, .iload 8, 160, 0), (160, .iconst 5, 161, 0), (161, .iushr, 162, 0), (162, .invokestatic 93, 165, 0), (165, .istore 6, 167, 0), (167, .goto 29, 170, 196), (170, .iload 7, 172, 0), (172, .bipush 11, 174, 0), (174, .if_icmp .ne 16, 177, 190), (177, .aload_n 0, 178, 0), (178, .aload_n 0, 179, 0), (179, .invokevirtual 89, 182, 0), (182, .iload 9, 184, 0), (184, .invokevirtual 99, 187, 0), (187, .goto 9, 190, 196), (190, .aload_n 0, 191, 0), (191, .iload 9, 193, 0), (193, .invokevirtual 102, 196, 0), (196, .goto (-143), 199, 53), (199, .aload_n 0, 200, 0), (200, .getfield 30, 203, 0), (203, .iload_n 2, 204, 0), (204, .iconst 1, 205, 0), (205, .bastore, 206, 0), (206, .return_, 207, 0)]
def zk_X2_obey : List (Nat × List Nat) := [(53, [0, 1, 2, 3, 6])]
def zl_X2_obey : List (Nat × zCI) := [(85, (zF_X2_work, 3, 0, 0, 0)), (89, (zF_X2_pop, 1, 1, 0, 0)), (93, (zF_max, 2, 1, 0, 0)), (99, (zF_X2_write, 3, 0, 0, 0)), (102, (zF_X2_answer, 2, 0, 0, 0))]
def zM_X2_obey : zMI := (z_look zfl_X2, z_look zl_X2_obey, z_look zcs_X2, z_look zth_X2, 10, 0)
def zs_X2_obey : List (Nat × Nat × Nat × Nat) := [(3, 4, 0, 0), (3, 5, 0, 0), (0, 0, 0, 0), (0, 0, 0, 0), (0, 0, 0, 0), (0, 0, 0, 0)]
def zF_X2_obey : List zVV → zSG → Option zRR := z_fn zs_X2_obey zM_X2_obey zc_X2_obey zk_X2_obey (0, 0)
theorem zo_X2_obey : z_okc cX2_obey zc_X2_obey = true := by decide +kernel
theorem zv_X2_obey : z_kd [85, 89, 99, 102] zc_X2_obey = true := by decide +kernel
set_option maxRecDepth 20000 in
theorem zt_X2_obey (l : Launch) : zCt l yX2_obey cX2_obey 10 none (zrm 2 0 0) zF_X2_obey := z_ct (own := RX2) (sh := zs_X2_obey) (M := zM_X2_obey) (cd := zc_X2_obey) (cut := zk_X2_obey) (by decide +kernel) rfl rfl rfl (z_fl_all zfl_X2_ok) (z_cs_all zcs_X2_ok) zo_X2_obey z_nothr (z_hcal (L := zl_X2_obey) zv_X2_obey (List.forall_mem_cons.mpr ⟨z_calV (l := l) (j := 85) (C := RX2) (cn := 4) (T := TX2) (N := 18) (zt_X2_work l) (by decide +kernel) (by decide +kernel) rfl ⟨by decide +kernel, by decide +kernel, by decide +kernel⟩ (z_room (by omega) (by decide)) rfl zr_X2_work, List.forall_mem_cons.mpr ⟨z_calV (l := l) (j := 89) (C := RX2) (cn := 4) (T := TX2) (N := 18) (zt_X2_pop l) (by decide +kernel) (by decide +kernel) rfl ⟨by decide +kernel, by decide +kernel, by decide +kernel⟩ (z_room (by omega) (by decide)) rfl zr_X2_pop, List.forall_mem_cons.mpr ⟨z_calMax (l := l) (j := 93) (by decide +kernel) (by decide) (by decide), List.forall_mem_cons.mpr ⟨z_calV (l := l) (j := 99) (C := RX2) (cn := 4) (T := TX2) (N := 18) (zt_X2_write l) (by decide +kernel) (by decide +kernel) rfl ⟨by decide +kernel, by decide +kernel, by decide +kernel⟩ (z_room (by omega) (by decide)) rfl zr_X2_write, List.forall_mem_cons.mpr ⟨z_calV (l := l) (j := 102) (C := RX2) (cn := 4) (T := TX2) (N := 18) (zt_X2_answer l) (by decide +kernel) (by decide +kernel) rfl ⟨by decide +kernel, by decide +kernel, by decide +kernel⟩ (z_room (by omega) (by decide)) rfl zr_X2_answer, fun _ h => nomatch h⟩⟩⟩⟩⟩)) (by decide)
theorem zr_X2_obey : ∀ vs g r, zF_X2_obey vs g = some r → ∃ i rv, vs = .inr (.inl (4, i, 0)) :: rv ∧ i < z_ni 4 := fun vs g r h => z_chk_rec (z_fn_chk (sh := zs_X2_obey) h).1 (Or.inr rfl)
def zc_X0_write : zCD := [(0, .aload_n 0, 1, 0), (1, .getfield 33, 4, 0), (4, .bipush 30, 6, 0), (6, .if_icmp .lt 5, 9, 11), (9, .iconst (-1), 10, 0), (10, .ireturn, 11, 0), (11, .aload_n 0, 12, 0), (12, .getfield 33, 15, 0), (15, .istore 5, 17, 0), (17, .aload_n 0, 18, 0), (18, .getfield 9, 21, 0), (21, .iload 5, 23, 0), (23, .iload_n 1, 24, 0), (24, .iastore, 25, 0), (25, .aload_n 0, 26, 0), (26, .getfield 15, 29, 0), (29, .iload 5, 31, 0), (31, .iload_n 2, 32, 0), (32, .iastore, 33, 0), (33, .aload_n 0, 34, 0), (34, .getfield 18, 37, 0), (37, .iload 5, 39, 0), (39, .iload_n 3, 40, 0), (40, .iastore, 41, 0), (41, .aload_n 0, 42, 0), (42, .getfield 21, 45, 0), (45, .iload 5, 47, 0), (47, .iload 4, 49, 0), (49, .iastore, 50, 0), (50, .aload_n 0, 51, 0), (51, .getfield 24, 54, 0), (54, .iload 5, 56, 0), (56, .iconst (-1), 57, 0), (57, .iastore, 58, 0), (58, .iload 5, 60, 0), (60, .istore 6, 62, 0), (62, .iload 6, 64, 0), (64, .ifCond .le 44, 67, 108), (67, .aload_n 0, 68, 0), (68, .getfield 21, 71, 0), (71, .aload_n 0, 72, 0), (72, .getfield 30, 75, 0), (75, .iload 6, 77, 0), (77, .iconst 1, 78, 0), (78, .isub, 79, 0), (79, .iaload, 80, 0), (80, .iaload, 81, 0), (81, .iload 4, 83, 0), (83, .if_icmp .le 25, 86, 108), (86, .aload_n 0, 87, 0), (87, .getfield 30, 90, 0), (90, .iload 6, 92, 0), (92, .aload_n 0, 93, 0), (93, .getfield 30, 96, 0), (96, .iload 6, 98, 0), (98, .iconst 1, 99, 0), (99, .isub, 100, 0), (100, .iaload, 101, 0), (101, .iastore, 102, 0), (102, .iinc 6 (-1), 105, 0), (105, .goto (-43), 108, 62), (108, .aload_n 0, 109, 0), (109, .getfield 30, 112, 0), (112, .iload 6, 114, 0), (114, .iload 5, 116, 0), (116, .iastore, 117, 0), (117, .aload_n 0, 118, 0), (118, .dup, 119, 0), (119, .getfield 33, 122, 0), (122, .iconst 1, 123, 0), (123, .iadd, 124, 0), (124, .putfield 33, 127, 0), (127, .iload 5, 129, 0), (129, .ireturn, 130, 0)]
def zk_X0_write : List (Nat × List Nat) := [(62, [0, 4, 5, 6])]
def zl_X0_write : List (Nat × zCI) := []
def zM_X0_write : zMI := (z_look zfl_X0, z_look zl_X0_write, z_look zcs_X0, z_look zth_X0, 7, 1)
def zs_X0_write : List (Nat × Nat × Nat × Nat) := [(2, 2, 0, 0), (0, 0, 0, 0), (0, 0, 0, 0), (0, 0, 0, 0), (0, 0, 0, 0)]
def zF_X0_write : List zVV → zSG → Option zRR := z_fn zs_X0_write zM_X0_write zc_X0_write zk_X0_write (0, 0)
theorem zo_X0_write : z_okc cX0_write zc_X0_write = true := by decide +kernel
theorem zv_X0_write : z_kd [] zc_X0_write = true := by decide +kernel
set_option maxRecDepth 20000 in
theorem zt_X0_write (l : Launch) : zCt l yX0_write cX0_write 7 (some .int) (zrm 0 0 0) zF_X0_write := z_ct (own := RX0) (sh := zs_X0_write) (M := zM_X0_write) (cd := zc_X0_write) (cut := zk_X0_write) (by decide +kernel) rfl rfl rfl (z_fl_all zfl_X0_ok) (z_cs_all zcs_X0_ok) zo_X0_write z_nothr (z_hcal (L := zl_X0_write) zv_X0_write (fun _ h => nomatch h)) (by decide)
theorem zr_X0_write : ∀ vs g r, zF_X0_write vs g = some r → ∃ i rv, vs = .inr (.inl (2, i, 0)) :: rv ∧ i < z_ni 2 := fun vs g r h => z_chk_rec (z_fn_chk (sh := zs_X0_write) h).1 (Or.inl ⟨rfl, by decide⟩)
def zc_X0_placeOf : zCD := [(0, .iconst 0, 1, 0), (1, .istore_n 2, 2, 0), (2, .iload_n 2, 3, 0), (3, .aload_n 0, 4, 0), (4, .getfield 33, 7, 0), (7, .if_icmp .ge 21, 10, 28), (10, .aload_n 0, 11, 0), (11, .getfield 30, 14, 0), (14, .iload_n 2, 15, 0), (15, .iaload, 16, 0), (16, .iload_n 1, 17, 0), (17, .if_icmp .ne 5, 20, 22), (20, .iload_n 2, 21, 0), (21, .ireturn, 22, 0), (22, .iinc 2 1, 25, 0), (25, .goto (-23), 28, 2), (28, .iconst 0, 29, 0), (29, .ireturn, 30, 0)]
def zk_X0_placeOf : List (Nat × List Nat) := [(2, [0, 1, 2])]
def zl_X0_placeOf : List (Nat × zCI) := []
def zM_X0_placeOf : zMI := (z_look zfl_X0, z_look zl_X0_placeOf, z_look zcs_X0, z_look zth_X0, 3, 1)
def zs_X0_placeOf : List (Nat × Nat × Nat × Nat) := [(2, 2, 0, 0), (0, 0, 0, 0)]
def zF_X0_placeOf : List zVV → zSG → Option zRR := z_fn zs_X0_placeOf zM_X0_placeOf zc_X0_placeOf zk_X0_placeOf (0, 0)
theorem zo_X0_placeOf : z_okc cX0_placeOf zc_X0_placeOf = true := by decide +kernel
theorem zv_X0_placeOf : z_kd [] zc_X0_placeOf = true := by decide +kernel
set_option maxRecDepth 20000 in
theorem zt_X0_placeOf (l : Launch) : zCt l yX0_placeOf cX0_placeOf 3 (some .int) (zrm 0 0 0) zF_X0_placeOf := z_ct (own := RX0) (sh := zs_X0_placeOf) (M := zM_X0_placeOf) (cd := zc_X0_placeOf) (cut := zk_X0_placeOf) (by decide +kernel) rfl rfl rfl (z_fl_all zfl_X0_ok) (z_cs_all zcs_X0_ok) zo_X0_placeOf z_nothr (z_hcal (L := zl_X0_placeOf) zv_X0_placeOf (fun _ h => nomatch h)) (by decide)
theorem zr_X0_placeOf : ∀ vs g r, zF_X0_placeOf vs g = some r → ∃ i rv, vs = .inr (.inl (2, i, 0)) :: rv ∧ i < z_ni 2 := fun vs g r h => z_chk_rec (z_fn_chk (sh := zs_X0_placeOf) h).1 (Or.inl ⟨rfl, by decide⟩)
