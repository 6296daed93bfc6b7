def zfl_X5 : List (Nat × (Nat × Nat)) := [(1, (3, 0)), (13, (3, 9)), (17, (3, 10)), (20, (3, 11)), (23, (3, 12)), (26, (3, 13)), (29, (3, 14)), (32, (3, 15)), (35, (3, 17)), (38, (3, 18)), (41, (3, 19)), (44, (3, 20)), (47, (3, 21)), (50, (3, 22)), (53, (3, 23)), (56, (3, 24)), (59, (3, 25)), (62, (3, 26)), (65, (3, 27)), (68, (3, 28)), (71, (3, 29)), (74, (3, 30)), (77, (3, 31)), (80, (3, 32)), (83, (3, 33)), (87, (3, 34)), (90, (3, 39)), (93, (3, 40)), (96, (3, 41)), (99, (3, 42)), (102, (3, 1)), (105, (3, 4)), (108, (3, 3)), (111, (3, 2)), (122, (3, 5)), (151, (3, 8)), (179, (3, 6)), (182, (3, 7)), (197, (3, 16)), (203, (3, 35)), (206, (3, 38)), (212, (3, 36)), (218, (3, 37)), (264, (3, 45)), (267, (3, 46)), (270, (3, 43)), (273, (3, 44))]
def zcs_X5 : List (Nat × zVV) := [(147, .inr (.inr 7348)), (149, .inr (.inr 16832373893)), (166, .inr (.inr 2)), (168, .inr (.inr 292)), (173, .inr (.inr 17076)), (175, .inr (.inr 19513)), (177, .inr (.inr 762030)), (196, .inl 100000), (240, .inl 1000000)]
def zth_X5 : List (Nat × Nat) := []
theorem zfl_X5_ok : zfl_X5.all (fun q => z_flb RX5 q.1 q.2.1 q.2.2) = true := by decide +kernel
theorem zcs_X5_ok : zcs_X5.all (fun q => z_csb RX5 q.1 q.2) = true := by decide +kernel
def zc_X5_thrown : zCD := [(0, .aload_n 0, 1, 0), (1, .getfield 1, 4, 0), (4, .ireturn, 5, 0)]
def zk_X5_thrown : List (Nat × List Nat) := []
def zl_X5_thrown : List (Nat × zCI) := []
def zM_X5_thrown : zMI := (z_look zfl_X5, z_look zl_X5_thrown, z_look zcs_X5, z_look zth_X5, 1, 1)
def zs_X5_thrown : List (Nat × Nat × Nat × Nat) := [(2, 3, 0, 0)]
def zF_X5_thrown : List zVV → zSG → Option zRR := z_fn zs_X5_thrown zM_X5_thrown zc_X5_thrown zk_X5_thrown (0, 0)
theorem zo_X5_thrown : z_okc cX5_thrown zc_X5_thrown = true := by decide +kernel
theorem zv_X5_thrown : z_kd [] zc_X5_thrown = true := by decide +kernel
set_option maxRecDepth 20000 in
theorem zt_X5_thrown (l : Launch) : zCt l yX5_thrown cX5_thrown 1 (some .int) (zrm 0 0 0) zF_X5_thrown := z_ct (own := RX5) (sh := zs_X5_thrown) (M := zM_X5_thrown) (cd := zc_X5_thrown) (cut := zk_X5_thrown) (by decide +kernel) rfl rfl rfl (z_fl_all zfl_X5_ok) (z_cs_all zcs_X5_ok) zo_X5_thrown z_nothr (z_hcal (L := zl_X5_thrown) zv_X5_thrown (fun _ h => nomatch h)) (by decide)
theorem zr_X5_thrown : ∀ vs g r, zF_X5_thrown vs g = some r → ∃ i rv, vs = .inr (.inl (3, i, 0)) :: rv ∧ i < z_ni 3 := fun vs g r h => z_chk_rec (z_fn_chk (sh := zs_X5_thrown) h).1 (Or.inl ⟨rfl, by decide⟩)
def zc_X5_may : zCD := [(0, .iload_n 1, 1, 0), (1, .ifCond .ne 15, 4, 16), (4, .aload_n 0, 5, 0), (5, .getfield 1, 8, 0), (8, .ifCond .ne 8, 11, 16), (11, .aload_n 0, 12, 0), (12, .iload_n 2, 13, 0), (13, .putfield 1, 16, 0), (16, .aload_n 0, 17, 0), (17, .getfield 1, 20, 0), (20, .ifCond .ne 7, 23, 27), (23, .iconst 1, 24, 0), (24, .goto 4, 27, 28), (27, .iconst 0, 28, 0), (28, .ireturn, 29, 0)]
def zk_X5_may : List (Nat × List Nat) := []
def zl_X5_may : List (Nat × zCI) := []
def zM_X5_may : zMI := (z_look zfl_X5, z_look zl_X5_may, z_look zcs_X5, z_look zth_X5, 3, 2)
def zs_X5_may : List (Nat × Nat × Nat × Nat) := [(2, 3, 0, 0), (0, 0, 0, 0), (0, 0, 0, 0)]
def zF_X5_may : List zVV → zSG → Option zRR := z_fn zs_X5_may zM_X5_may zc_X5_may zk_X5_may (0, 0)
theorem zo_X5_may : z_okc cX5_may zc_X5_may = true := by decide +kernel
theorem zv_X5_may : z_kd [] zc_X5_may = true := by decide +kernel
set_option maxRecDepth 20000 in
theorem zt_X5_may (l : Launch) : zCt l yX5_may cX5_may 3 (some .boolean) (zrm 0 0 0) zF_X5_may := z_ct (own := RX5) (sh := zs_X5_may) (M := zM_X5_may) (cd := zc_X5_may) (cut := zk_X5_may) (by decide +kernel) rfl rfl rfl (z_fl_all zfl_X5_ok) (z_cs_all zcs_X5_ok) zo_X5_may z_nothr (z_hcal (L := zl_X5_may) zv_X5_may (fun _ h => nomatch h)) (by decide)
theorem zr_X5_may : ∀ vs g r, zF_X5_may vs g = some r → ∃ i rv, vs = .inr (.inl (3, i, 0)) :: rv ∧ i < z_ni 3 := fun vs g r h => z_chk_rec (z_fn_chk (sh := zs_X5_may) h).1 (Or.inl ⟨rfl, by decide⟩)
def zc_X5_within : zCD := [(0, .iload_n 0, 1, 0), (1, .iload_n 1, 2, 0), (2, .if_icmp .lt 12, 5, 14), (5, .iload_n 0, 6, 0), (6, .iload_n 2, 7, 0), (7, .if_icmp .gt 7, 10, 14), (10, .iconst 1, 11, 0), (11, .goto 4, 14, 15), (14, .iconst 0, 15, 0), (15, .ireturn, 16, 0)]
def zk_X5_within : List (Nat × List Nat) := []
def zl_X5_within : List (Nat × zCI) := []
def zM_X5_within : zMI := (z_look zfl_X5, z_look zl_X5_within, z_look zcs_X5, z_look zth_X5, 3, 2)
def zs_X5_within : List (Nat × Nat × Nat × Nat) := [(0, 0, 0, 0), (0, 0, 0, 0), (0, 0, 0, 0)]
def zF_X5_within : List zVV → zSG → Option zRR := z_fn zs_X5_within zM_X5_within zc_X5_within zk_X5_within (0, 0)
theorem zo_X5_within : z_okc cX5_within zc_X5_within = true := by decide +kernel
theorem zv_X5_within : z_kd [] zc_X5_within = true := by decide +kernel
set_option maxRecDepth 20000 in
theorem zt_X5_within (l : Launch) : zCt l yX5_within cX5_within 3 (some .boolean) (zrm 0 0 0) zF_X5_within := z_ct (own := RX5) (sh := zs_X5_within) (M := zM_X5_within) (cd := zc_X5_within) (cut := zk_X5_within) (by decide +kernel) rfl rfl rfl (z_fl_all zfl_X5_ok) (z_cs_all zcs_X5_ok) zo_X5_within z_nothr (z_hcal (L := zl_X5_within) zv_X5_within (fun _ h => nomatch h)) (by decide)
def zc_X5_feed : zCD := [(0, .aload_n 0, 1, 0), (1, .iconst 0, 2, 0), (2, .putfield 1, 5, 0), (5, .aload_n 0, 6, 0), (6, .getfield 102, 9, 0), (9, .bipush 20, 11, 0), (11, .iadd, 12, 0), (12, .sipush 400, 15, 0), (15, .if_icmp .le 5, 18, 20), (18, .iconst (-1), 19, 0), (19, .ireturn, 20, 0), (20, .iconst 0, 21, 0), (21, .istore 6, 23, 0), (23, .iload 6, 25, 0), (25, .bipush 20, 27, 0), (27, .if_icmp .ge 93, 30, 120), (30, .iload 6, 32, 0), (32, .iconst 4, 33, 0), (33, .if_icmp .ge 7, 36, 40), (36, .iload_n 1, 37, 0), (37, .goto 39, 40, 76), (40, .iload 6, 42, 0), (42, .bipush 8, 44, 0), (44, .if_icmp .ge 7, 47, 51), (47, .iload_n 2, 48, 0), (48, .goto 28, 51, 76), (51, .iload 6, 53, 0), (53, .bipush 12, 55, 0), (55, .if_icmp .ge 7, 58, 62), (58, .iload_n 3, 59, 0), (59, .goto 17, 62, 76), (62, .iload 6, 64, 0), (64, .bipush 16, 66, 0), (66, .if_icmp .ge 8, 69, 74), (69, .iload 4, 71, 0), (71, .goto 5, 74, 76), (74, .iload 5, 76, 0), (76, .istore 7, 78, 0), (78, .aload_n 0, 79, 0), (79, .getfield 13, 82, 0), (82, .aload_n 0, 83, 0), (83, .getfield 102, 86, 0), (86, .iload 7, 88, 0), (88, .bipush 24, 90, 0), (90, .bipush 8, 92, 0), (92, .iload 6, 94, 0), (94, .iconst 4, 95, 0), (95, .irem, 96, 0), (96, .imul, 97, 0), (97, .isub, 98, 0), (98, .ishr, 99, 0), (99, .sipush 255, 102, 0), (102, .iand, 103, 0), (103, .iastore, 104, 0), (104, .aload_n 0, 105, 0), (105, .dup, 106, 0), (106, .getfield 102, 109, 0), (109, .iconst 1, 110, 0), (110, .iadd, 111, 0), (111, .putfield 102, 114, 0), (114, .iinc 6 1, 117, 0), (117, .goto (-94), 120, 23), (120, .aload_n 0, 121, 0), (121, .getfield 102, 124, 0), (124, .ireturn, 125, 0)]
def zk_X5_feed : List (Nat × List Nat) := [(23, [0, 1, 2, 3, 4, 5, 6])]
def zl_X5_feed : List (Nat × zCI) := []
def zM_X5_feed : zMI := (z_look zfl_X5, z_look zl_X5_feed, z_look zcs_X5, z_look zth_X5, 8, 1)
def zs_X5_feed : List (Nat × Nat × Nat × Nat) := [(2, 3, 0, 0), (0, 0, 0, 0), (0, 0, 0, 0), (0, 0, 0, 0), (0, 0, 0, 0), (0, 0, 0, 0)]
def zF_X5_feed : List zVV → zSG → Option zRR := z_fn zs_X5_feed zM_X5_feed zc_X5_feed zk_X5_feed (0, 0)
theorem zo_X5_feed : z_okc cX5_feed zc_X5_feed = true := by decide +kernel
theorem zv_X5_feed : z_kd [] zc_X5_feed = true := by decide +kernel
set_option maxRecDepth 20000 in
theorem zt_X5_feed (l : Launch) : zCt l yX5_feed cX5_feed 8 (some .int) (zrm 0 0 0) zF_X5_feed := z_ct (own := RX5) (sh := zs_X5_feed) (M := zM_X5_feed) (cd := zc_X5_feed) (cut := zk_X5_feed) (by decide +kernel) rfl rfl rfl (z_fl_all zfl_X5_ok) (z_cs_all zcs_X5_ok) zo_X5_feed z_nothr (z_hcal (L := zl_X5_feed) zv_X5_feed (fun _ h => nomatch h)) (by decide)
theorem zr_X5_feed : ∀ vs g r, zF_X5_feed vs g = some r → ∃ i rv, vs = .inr (.inl (3, i, 0)) :: rv ∧ i < z_ni 3 := fun vs g r h => z_chk_rec (z_fn_chk (sh := zs_X5_feed) h).1 (Or.inl ⟨rfl, by decide⟩)
def zc_X5_fine : zCD := [(0, .aload_n 0, 1, 0), (1, .getfield 105, 4, 0), (4, .iconst (-1), 5, 0), (5, .if_icmp .ne 7, 8, 12), (8, .iconst 1, 9, 0), (9, .goto 4, 12, 13), (12, .iconst 0, 13, 0), (13, .ireturn, 14, 0)]
def zk_X5_fine : List (Nat × List Nat) := []
def zl_X5_fine : List (Nat × zCI) := []
def zM_X5_fine : zMI := (z_look zfl_X5, z_look zl_X5_fine, z_look zcs_X5, z_look zth_X5, 1, 2)
def zs_X5_fine : List (Nat × Nat × Nat × Nat) := [(2, 3, 0, 0)]
def zF_X5_fine : List zVV → zSG → Option zRR := z_fn zs_X5_fine zM_X5_fine zc_X5_fine zk_X5_fine (0, 0)
theorem zo_X5_fine : z_okc cX5_fine zc_X5_fine = true := by decide +kernel
theorem zv_X5_fine : z_kd [] zc_X5_fine = true := by decide +kernel
set_option maxRecDepth 20000 in
theorem zt_X5_fine (l : Launch) : zCt l yX5_fine cX5_fine 1 (some .boolean) (zrm 0 0 0) zF_X5_fine := z_ct (own := RX5) (sh := zs_X5_fine) (M := zM_X5_fine) (cd := zc_X5_fine) (cut := zk_X5_fine) (by decide +kernel) rfl rfl rfl (z_fl_all zfl_X5_ok) (z_cs_all zcs_X5_ok) zo_X5_fine z_nothr (z_hcal (L := zl_X5_fine) zv_X5_fine (fun _ h => nomatch h)) (by decide)
theorem zr_X5_fine : ∀ vs g r, zF_X5_fine vs g = some r → ∃ i rv, vs = .inr (.inl (3, i, 0)) :: rv ∧ i < z_ni 3 := fun vs g r h => z_chk_rec (z_fn_chk (sh := zs_X5_fine) h).1 (Or.inl ⟨rfl, by decide⟩)
def zc_X5_wrong : zCD := [(0, .aload_n 0, 1, 0), (1, .getfield 105, 4, 0), (4, .iconst (-1), 5, 0), (5, .if_icmp .ne 8, 8, 13), (8, .aload_n 0, 9, 0), (9, .iload_n 1, 10, 0), (10, .putfield 105, 13, 0), (13, .return_, 14, 0)]
def zk_X5_wrong : List (Nat × List Nat) := []
def zl_X5_wrong : List (Nat × zCI) := []
def zM_X5_wrong : zMI := (z_look zfl_X5, z_look zl_X5_wrong, z_look zcs_X5, z_look zth_X5, 2, 0)
def zs_X5_wrong : List (Nat × Nat × Nat × Nat) := [(2, 3, 0, 0), (0, 0, 0, 0)]
def zF_X5_wrong : List zVV → zSG → Option zRR := z_fn zs_X5_wrong zM_X5_wrong zc_X5_wrong zk_X5_wrong (0, 0)
theorem zo_X5_wrong : z_okc cX5_wrong zc_X5_wrong = true := by decide +kernel
theorem zv_X5_wrong : z_kd [] zc_X5_wrong = true := by decide +kernel
set_option maxRecDepth 20000 in
theorem zt_X5_wrong (l : Launch) : zCt l yX5_wrong cX5_wrong 2 none (zrm 0 0 0) zF_X5_wrong := z_ct (own := RX5) (sh := zs_X5_wrong) (M := zM_X5_wrong) (cd := zc_X5_wrong) (cut := zk_X5_wrong) (by decide +kernel) rfl rfl rfl (z_fl_all zfl_X5_ok) (z_cs_all zcs_X5_ok) zo_X5_wrong z_nothr (z_hcal (L := zl_X5_wrong) zv_X5_wrong (fun _ h => nomatch h)) (by decide)
theorem zr_X5_wrong : ∀ vs g r, zF_X5_wrong vs g = some r → ∃ i rv, vs = .inr (.inl (3, i, 0)) :: rv ∧ i < z_ni 3 := fun vs g r h => z_chk_rec (z_fn_chk (sh := zs_X5_wrong) h).1 (Or.inl ⟨rfl, by decide⟩)
def zc_X5_here : zCD := [(0, .aload_n 0, 1, 0), (1, .getfield 108, 4, 0), (4, .aload_n 0, 5, 0), (5, .getfield 111, 8, 0), (8, .if_icmp .ge 30, 11, 38), (11, .aload_n 0, 12, 0), (12, .getfield 13, 15, 0), (15, .aload_n 0, 16, 0), (16, .getfield 108, 19, 0), (19, .iaload, 20, 0), (20, .bipush 32, 22, 0), (22, .if_icmp .ne 16, 25, 38), (25, .aload_n 0, 26, 0), (26, .dup, 27, 0), (27, .getfield 108, 30, 0), (30, .iconst 1, 31, 0), (31, .iadd, 32, 0), (32, .putfield 108, 35, 0), (35, .goto (-35), 38, 0), (38, .aload_n 0, 39, 0), (39, .getfield 108, 42, 0), (42, .aload_n 0, 43, 0), (43, .getfield 111, 46, 0), (46, .if_icmp .ge 15, 49, 61), (49, .aload_n 0, 50, 0), (50, .getfield 13, 53, 0), (53, .aload_n 0, 54, 0), (54, .getfield 108, 57, 0), (57, .iaload, 58, 0), (58, .goto 4, 61, 62), (61, .iconst 0, 62, 0), (62, .ireturn, 63, 0)]
def zk_X5_here : List (Nat × List Nat) := [(0, [0])]
def zl_X5_here : List (Nat × zCI) := []
def zM_X5_here : zMI := (z_look zfl_X5, z_look zl_X5_here, z_look zcs_X5, z_look zth_X5, 1, 1)
def zs_X5_here : List (Nat × Nat × Nat × Nat) := [(2, 3, 0, 0)]
def zF_X5_here : List zVV → zSG → Option zRR := z_fn zs_X5_here zM_X5_here zc_X5_here zk_X5_here (0, 0)
theorem zo_X5_here : z_okc cX5_here zc_X5_here = true := by decide +kernel
theorem zv_X5_here : z_kd [] zc_X5_here = true := by decide +kernel
set_option maxRecDepth 20000 in
theorem zt_X5_here (l : Launch) : zCt l yX5_here cX5_here 1 (some .int) (zrm 0 0 0) zF_X5_here := z_ct (own := RX5) (sh := zs_X5_here) (M := zM_X5_here) (cd := zc_X5_here) (cut := zk_X5_here) (by decide +kernel) rfl rfl rfl (z_fl_all zfl_X5_ok) (z_cs_all zcs_X5_ok) zo_X5_here z_nothr (z_hcal (L := zl_X5_here) zv_X5_here (fun _ h => nomatch h)) (by decide)
theorem zr_X5_here : ∀ vs g r, zF_X5_here vs g = some r → ∃ i rv, vs = .inr (.inl (3, i, 0)) :: rv ∧ i < z_ni 3 := fun vs g r h => z_chk_rec (z_fn_chk (sh := zs_X5_here) h).1 (Or.inl ⟨rfl, by decide⟩)
def zc_X5_isSmall : zCD := [(0, .iload_n 0, 1, 0), (1, .bipush 97, 3, 0), (3, .if_icmp .lt 13, 6, 16), (6, .iload_n 0, 7, 0), (7, .bipush 122, 9, 0), (9, .if_icmp .gt 7, 12, 16), (12, .iconst 1, 13, 0), (13, .goto 4, 16, 17), (16, .iconst 0, 17, 0), (17, .ireturn, 18, 0)]
def zk_X5_isSmall : List (Nat × List Nat) := []
def zl_X5_isSmall : List (Nat × zCI) := []
def zM_X5_isSmall : zMI := (z_look zfl_X5, z_look zl_X5_isSmall, z_look zcs_X5, z_look zth_X5, 1, 2)
def zs_X5_isSmall : List (Nat × Nat × Nat × Nat) := [(0, 0, 0, 0)]
def zF_X5_isSmall : List zVV → zSG → Option zRR := z_fn zs_X5_isSmall zM_X5_isSmall zc_X5_isSmall zk_X5_isSmall (0, 0)
theorem zo_X5_isSmall : z_okc cX5_isSmall zc_X5_isSmall = true := by decide +kernel
theorem zv_X5_isSmall : z_kd [] zc_X5_isSmall = true := by decide +kernel
set_option maxRecDepth 20000 in
theorem zt_X5_isSmall (l : Launch) : zCt l yX5_isSmall cX5_isSmall 1 (some .boolean) (zrm 0 0 0) zF_X5_isSmall := z_ct (own := RX5) (sh := zs_X5_isSmall) (M := zM_X5_isSmall) (cd := zc_X5_isSmall) (cut := zk_X5_isSmall) (by decide +kernel) rfl rfl rfl (z_fl_all zfl_X5_ok) (z_cs_all zcs_X5_ok) zo_X5_isSmall z_nothr (z_hcal (L := zl_X5_isSmall) zv_X5_isSmall (fun _ h => nomatch h)) (by decide)
def zc_X5_isDigit : zCD := [(0, .iload_n 0, 1, 0), (1, .bipush 48, 3, 0), (3, .if_icmp .lt 13, 6, 16), (6, .iload_n 0, 7, 0), (7, .bipush 57, 9, 0), (9, .if_icmp .gt 7, 12, 16), (12, .iconst 1, 13, 0), (13, .goto 4, 16, 17), (16, .iconst 0, 17, 0), (17, .ireturn, 18, 0)]
def zk_X5_isDigit : List (Nat × List Nat) := []
def zl_X5_isDigit : List (Nat × zCI) := []
def zM_X5_isDigit : zMI := (z_look zfl_X5, z_look zl_X5_isDigit, z_look zcs_X5, z_look zth_X5, 1, 2)
def zs_X5_isDigit : List (Nat × Nat × Nat × Nat) := [(0, 0, 0, 0)]
def zF_X5_isDigit : List zVV → zSG → Option zRR := z_fn zs_X5_isDigit zM_X5_isDigit zc_X5_isDigit zk_X5_isDigit (0, 0)
theorem zo_X5_isDigit : z_okc cX5_isDigit zc_X5_isDigit = true := by decide +kernel
theorem zv_X5_isDigit : z_kd [] zc_X5_isDigit = true := by decide +kernel
set_option maxRecDepth 20000 in
theorem zt_X5_isDigit (l : Launch) : zCt l yX5_isDigit cX5_isDigit 1 (some .boolean) (zrm 0 0 0) zF_X5_isDigit := z_ct (own := RX5) (sh := zs_X5_isDigit) (M := zM_X5_isDigit) (cd := zc_X5_isDigit) (cut := zk_X5_isDigit) (by decide +kernel) rfl rfl rfl (z_fl_all zfl_X5_ok) (z_cs_all zcs_X5_ok) zo_X5_isDigit z_nothr (z_hcal (L := zl_X5_isDigit) zv_X5_isDigit (fun _ h => nomatch h)) (by decide)
def zc_X5_word : zCD := [(0, .aload_n 0, 1, 0), (1, .invokevirtual 114, 4, 0), (4, .pop, 5, 0), (5, .lconst 0, 6, 0), (6, .lstore_n 1, 7, 0), (7, .iconst 0, 8, 0), (8, .istore_n 3, 9, 0), (9, .aload_n 0, 10, 0), (10, .getfield 108, 13, 0), (13, .istore 4, 15, 0), (15, .iload 4, 17, 0), (17, .aload_n 0, 18, 0), (18, .getfield 111, 21, 0), (21, .if_icmp .ge 51, 24, 72), (24, .aload_n 0, 25, 0), (25, .getfield 13, 28, 0), (28, .iload 4, 30, 0), (30, .iaload, 31, 0), (31, .invokestatic 118, 34, 0), (34, .ifCond .eq 38, 37, 72), (37, .iload_n 3, 38, 0), (38, .bipush 7, 40, 0), (40, .if_icmp .ge 21, 43, 61), (43, .lload_n 1, 44, 0), (44, .iconst 5, 45, 0), (45, .lshl, 46, 0), (46, .aload_n 0, 47, 0), (47, .getfield 13, 50, 0), (50, .iload 4, 52, 0), (52, .iaload, 53, 0), (53, .bipush 96, 55, 0), (55, .isub, 56, 0), (56, .i2l, 57, 0), (57, .lor, 58, 0), (58, .goto 4, 61, 62), (61, .lconst 0, 62, 0), (62, .lstore_n 1, 63, 0), (63, .iinc 3 1, 66, 0), (66, .iinc 4 1, 69, 0), (69, .goto (-54), 72, 15), (72, .iload_n 3, 73, 0), (73, .bipush 7, 75, 0), (75, .if_icmp .le 7, 78, 82), (78, .lconst 0, 79, 0), (79, .goto 4, 82, 83), (82, .lload_n 1, 83, 0), (83, .lreturn, 84, 0)]
def zk_X5_word : List (Nat × List Nat) := [(15, [0, 1, 3, 4])]
def zl_X5_word : List (Nat × zCI) := [(114, (zF_X5_here, 1, 1, 0, 0)), (118, (zF_X5_isSmall, 1, 1, 0, 0))]
def zM_X5_word : zMI := (z_look zfl_X5, z_look zl_X5_word, z_look zcs_X5, z_look zth_X5, 5, 3)
def zs_X5_word : List (Nat × Nat × Nat × Nat) := [(2, 3, 0, 0)]
def zF_X5_word : List zVV → zSG → Option zRR := z_fn zs_X5_word zM_X5_word zc_X5_word zk_X5_word (0, 0)
theorem zo_X5_word : z_okc cX5_word zc_X5_word = true := by decide +kernel
theorem zv_X5_word : z_kd [114] zc_X5_word = true := by decide +kernel
set_option maxRecDepth 20000 in
theorem zt_X5_word (l : Launch) : zCt l yX5_word cX5_word 5 (some .long) (zrm 1 0 0) zF_X5_word := z_ct (own := RX5) (sh := zs_X5_word) (M := zM_X5_word) (cd := zc_X5_word) (cut := zk_X5_word) (by decide +kernel) rfl rfl rfl (z_fl_all zfl_X5_ok) (z_cs_all zcs_X5_ok) zo_X5_word z_nothr (z_hcal (L := zl_X5_word) zv_X5_word (List.forall_mem_cons.mpr ⟨z_calV (l := l) (j := 114) (C := RX5) (cn := 3) (T := TX5) (N := 47) (zt_X5_here l) (by decide +kernel) (by decide +kernel) rfl ⟨by decide +kernel, by decide +kernel, by decide +kernel⟩ (z_room (by omega) (by decide)) rfl zr_X5_here, List.forall_mem_cons.mpr ⟨z_calS (l := l) (j := 118) (zt_X5_isSmall l) (by decide +kernel) (by decide +kernel) ⟨by decide +kernel, by decide +kernel, by decide +kernel⟩ (z_room (by omega) (by decide)), fun _ h => nomatch h⟩⟩)) (by decide)
theorem zr_X5_word : ∀ vs g r, zF_X5_word vs g = some r → ∃ i rv, vs = .inr (.inl (3, i, 0)) :: rv ∧ i < z_ni 3 := fun vs g r h => z_chk_rec (z_fn_chk (sh := zs_X5_word) h).1 (Or.inl ⟨rfl, by decide⟩)
def zc_X5_pass : zCD := [(0, .aload_n 0, 1, 0), (1, .getfield 108, 4, 0), (4, .aload_n 0, 5, 0), (5, .getfield 111, 8, 0), (8, .if_icmp .ge 31, 11, 39), (11, .aload_n 0, 12, 0), (12, .getfield 13, 15, 0), (15, .aload_n 0, 16, 0), (16, .getfield 108, 19, 0), (19, .iaload, 20, 0), (20, .invokestatic 118, 23, 0), (23, .ifCond .eq 16, 26, 39), (26, .aload_n 0, 27, 0), (27, .dup, 28, 0), (28, .getfield 108, 31, 0), (31, .iconst 1, 32, 0), (32, .iadd, 33, 0), (33, .putfield 108, 36, 0), (36, .goto (-36), 39, 0), (39, .return_, 40, 0)]
def zk_X5_pass : List (Nat × List Nat) := [(0, [0])]
def zl_X5_pass : List (Nat × zCI) := [(118, (zF_X5_isSmall, 1, 1, 0, 0))]
def zM_X5_pass : zMI := (z_look zfl_X5, z_look zl_X5_pass, z_look zcs_X5, z_look zth_X5, 1, 0)
def zs_X5_pass : List (Nat × Nat × Nat × Nat) := [(2, 3, 0, 0)]
def zF_X5_pass : List zVV → zSG → Option zRR := z_fn zs_X5_pass zM_X5_pass zc_X5_pass zk_X5_pass (0, 0)
theorem zo_X5_pass : z_okc cX5_pass zc_X5_pass = true := by decide +kernel
theorem zv_X5_pass : z_kd [] zc_X5_pass = true := by decide +kernel
set_option maxRecDepth 20000 in
theorem zt_X5_pass (l : Launch) : zCt l yX5_pass cX5_pass 1 none (zrm 1 0 0) zF_X5_pass := z_ct (own := RX5) (sh := zs_X5_pass) (M := zM_X5_pass) (cd := zc_X5_pass) (cut := zk_X5_pass) (by decide +kernel) rfl rfl rfl (z_fl_all zfl_X5_ok) (z_cs_all zcs_X5_ok) zo_X5_pass z_nothr (z_hcal (L := zl_X5_pass) zv_X5_pass (List.forall_mem_cons.mpr ⟨z_calS (l := l) (j := 118) (zt_X5_isSmall l) (by decide +kernel) (by decide +kernel) ⟨by decide +kernel, by decide +kernel, by decide +kernel⟩ (z_room (by omega) (by decide)), fun _ h => nomatch h⟩)) (by decide)
theorem zr_X5_pass : ∀ vs g r, zF_X5_pass vs g = some r → ∃ i rv, vs = .inr (.inl (3, i, 0)) :: rv ∧ i < z_ni 3 := fun vs g r h => z_chk_rec (z_fn_chk (sh := zs_X5_pass) h).1 (Or.inl ⟨rfl, by decide⟩)
def zc_X5_emit : zCD := [(0, .aload_n 0, 1, 0), (1, .getfield 17, 4, 0), (4, .aload_n 0, 5, 0), (5, .getfield 122, 8, 0), (8, .iload_n 1, 9, 0), (9, .iastore, 10, 0), (10, .aload_n 0, 11, 0), (11, .getfield 20, 14, 0), (14, .aload_n 0, 15, 0), (15, .getfield 122, 18, 0), (18, .iload_n 2, 19, 0), (19, .iastore, 20, 0), (20, .aload_n 0, 21, 0), (21, .dup, 22, 0), (22, .getfield 122, 25, 0), (25, .iconst 1, 26, 0), (26, .iadd, 27, 0), (27, .putfield 122, 30, 0), (30, .return_, 31, 0)]
def zk_X5_emit : List (Nat × List Nat) := []
def zl_X5_emit : List (Nat × zCI) := []
def zM_X5_emit : zMI := (z_look zfl_X5, z_look zl_X5_emit, z_look zcs_X5, z_look zth_X5, 3, 0)
def zs_X5_emit : List (Nat × Nat × Nat × Nat) := [(2, 3, 0, 0), (0, 0, 0, 0), (0, 0, 0, 0)]
def zF_X5_emit : List zVV → zSG → Option zRR := z_fn zs_X5_emit zM_X5_emit zc_X5_emit zk_X5_emit (0, 0)
theorem zo_X5_emit : z_okc cX5_emit zc_X5_emit = true := by decide +kernel
theorem zv_X5_emit : z_kd [] zc_X5_emit = true := by decide +kernel
set_option maxRecDepth 20000 in
theorem zt_X5_emit (l : Launch) : zCt l yX5_emit cX5_emit 3 none (zrm 0 0 0) zF_X5_emit := z_ct (own := RX5) (sh := zs_X5_emit) (M := zM_X5_emit) (cd := zc_X5_emit) (cut := zk_X5_emit) (by decide +kernel) rfl rfl rfl (z_fl_all zfl_X5_ok) (z_cs_all zcs_X5_ok) zo_X5_emit z_nothr (z_hcal (L := zl_X5_emit) zv_X5_emit (fun _ h => nomatch h)) (by decide)
theorem zr_X5_emit : ∀ vs g r, zF_X5_emit vs g = some r → ∃ i rv, vs = .inr (.inl (3, i, 0)) :: rv ∧ i < z_ni 3 := fun vs g r h => z_chk_rec (z_fn_chk (sh := zs_X5_emit) h).1 (Or.inl ⟨rfl, by decide⟩)
def zc_X5_need : zCD := [(0, .aload_n 0, 1, 0), (1, .invokevirtual 125, 4, 0), (4, .ifCond .eq 19, 7, 23), (7, .aload_n 0, 8, 0), (8, .invokevirtual 114, 11, 0), (11, .iload_n 1, 12, 0), (12, .if_icmp .eq 11, 15, 23), (15, .aload_n 0, 16, 0), (16, .aload_n 0, 17, 0), (17, .getfield 108, 20, 0), (20, .invokevirtual 129, 23, 0), (23, .aload_n 0, 24, 0), (24, .invokevirtual 125, 27, 0), (27, .ifCond .eq 13, 30, 40), (30, .aload_n 0, 31, 0), (31, .dup, 32, 0), (32, .getfield 108, 35, 0), (35, .iconst 1, 36, 0), (36, .iadd, 37, 0), (37, .putfield 108, 40, 0), (40, .return_, 41, 0)]
def zk_X5_need : List (Nat × List Nat) := []
def zl_X5_need : List (Nat × zCI) := [(125, (zF_X5_fine, 1, 1, 0, 0)), (114, (zF_X5_here, 1, 1, 0, 0)), (129, (zF_X5_wrong, 2, 0, 0, 0))]
def zM_X5_need : zMI := (z_look zfl_X5, z_look zl_X5_need, z_look zcs_X5, z_look zth_X5, 2, 0)
def zs_X5_need : List (Nat × Nat × Nat × Nat) := [(2, 3, 0, 0), (0, 0, 0, 0)]
def zF_X5_need : List zVV → zSG → Option zRR := z_fn zs_X5_need zM_X5_need zc_X5_need zk_X5_need (0, 0)
theorem zo_X5_need : z_okc cX5_need zc_X5_need = true := by decide +kernel
theorem zv_X5_need : z_kd [125, 114, 129] zc_X5_need = true := by decide +kernel
set_option maxRecDepth 20000 in
theorem zt_X5_need (l : Launch) : zCt l yX5_need cX5_need 2 none (zrm 1 0 0) zF_X5_need := z_ct (own := RX5) (sh := zs_X5_need) (M := zM_X5_need) (cd := zc_X5_need) (cut := zk_X5_need) (by decide +kernel) rfl rfl rfl (z_fl_all zfl_X5_ok) (z_cs_all zcs_X5_ok) zo_X5_need z_nothr (z_hcal (L := zl_X5_need) zv_X5_need (List.forall_mem_cons.mpr ⟨z_calV (l := l) (j := 125) (C := RX5) (cn := 3) (T := TX5) (N := 47) (zt_X5_fine l) (by decide +kernel) (by decide +kernel) rfl ⟨by decide +kernel, by decide +kernel, by decide +kernel⟩ (z_room (by omega) (by decide)) rfl zr_X5_fine, List.forall_mem_cons.mpr ⟨z_calV (l := l) (j := 114) (C := RX5) (cn := 3) (T := TX5) (N := 47) (zt_X5_here l) (by decide +kernel) (by decide +kernel) rfl ⟨by decide +kernel, by decide +kernel, by decide +kernel⟩ (z_room (by omega) (by decide)) rfl zr_X5_here, List.forall_mem_cons.mpr ⟨z_calV (l := l) (j := 129) (C := RX5) (cn := 3) (T := TX5) (N := 47) (zt_X5_wrong l) (by decide +kernel) (by decide +kernel) rfl ⟨by decide +kernel, by decide +kernel, by decide +kernel⟩ (z_room (by omega) (by decide)) rfl zr_X5_wrong, fun _ h => nomatch h⟩⟩⟩)) (by decide)
theorem zr_X5_need : ∀ vs g r, zF_X5_need vs g = some r → ∃ i rv, vs = .inr (.inl (3, i, 0)) :: rv ∧ i < z_ni 3 := fun vs g r h => z_chk_rec (z_fn_chk (sh := zs_X5_need) h).1 (Or.inl ⟨rfl, by decide⟩)
def zc_X5_digits : zCD := [(0, .iconst 0, 1, 0), (1, .istore_n 1, 2, 0), (2, .iconst 0, 3, 0), (3, .istore_n 2, 4, 0), (4, .aload_n 0, 5, 0), (5, .invokevirtual 125, 8, 0), (8, .ifCond .eq 80, 11, 88), (11, .aload_n 0, 12, 0), (12, .getfield 108, 15, 0), (15, .aload_n 0, 16, 0), (16, .getfield 111, 19, 0), (19, .if_icmp .ge 69, 22, 88), (22, .aload_n 0, 23, 0), (23, .getfield 13, 26, 0), (26, .aload_n 0, 27, 0), (27, .getfield 108, 30, 0), (30, .iaload, 31, 0), (31, .invokestatic 133, 34, 0), (34, .ifCond .eq 54, 37, 88), (37, .iload_n 2, 38, 0), (38, .bipush 6, 40, 0), (40, .if_icmp .ne 14, 43, 54), (43, .aload_n 0, 44, 0), (44, .aload_n 0, 45, 0), (45, .getfield 108, 48, 0), (48, .invokevirtual 129, 51, 0), (51, .goto (-47), 54, 4), (54, .bipush 10, 56, 0), (56, .iload_n 1, 57, 0), (57, .imul, 58, 0), (58, .aload_n 0, 59, 0), (59, .getfield 13, 62, 0), (62, .aload_n 0, 63, 0), (63, .getfield 108, 66, 0), (66, .iaload, 67, 0), (67, .iadd, 68, 0), (68, .bipush 48, 70, 0), (70, .isub, 71, 0), (71, .istore_n 1, 72, 0), (72, .iinc 2 1, 75, 0), (75, .aload_n 0, 76, 0), (76, .dup, 77, 0), (77, .getfield 108, 80, 0), (80, .iconst 1, 81, 0), (81, .iadd, 82, 0), (82, .putfield 108, 85, 0), (85, .goto (-81), 88, 4), (88, .aload_n 0, 89, 0), (89, .invokevirtual 125, 92, 0), (92, .ifCond .eq 9, 95, 101), (95, .aload_n 0, 96, 0), (96, .iconst 0, 97, 0), (97, .iload_n 1, 98, 0), (98, .invokevirtual 136, 101, 0), (101, .return_, 102, 0)]
def zk_X5_digits : List (Nat × List Nat) := [(4, [0, 1, 2])]
def zl_X5_digits : List (Nat × zCI) := [(125, (zF_X5_fine, 1, 1, 0, 0)), (133, (zF_X5_isDigit, 1, 1, 0, 0)), (129, (zF_X5_wrong, 2, 0, 0, 0)), (136, (zF_X5_emit, 3, 0, 0, 0))]
def zM_X5_digits : zMI := (z_look zfl_X5, z_look zl_X5_digits, z_look zcs_X5, z_look zth_X5, 3, 0)
def zs_X5_digits : List (Nat × Nat × Nat × Nat) := [(2, 3, 0, 0)]
def zF_X5_digits : List zVV → zSG → Option zRR := z_fn zs_X5_digits zM_X5_digits zc_X5_digits zk_X5_digits (0, 0)
theorem zo_X5_digits : z_okc cX5_digits zc_X5_digits = true := by decide +kernel
theorem zv_X5_digits : z_kd [125, 129, 136] zc_X5_digits = true := by decide +kernel
set_option maxRecDepth 20000 in
theorem zt_X5_digits (l : Launch) : zCt l yX5_digits cX5_digits 3 none (zrm 1 0 0) zF_X5_digits := z_ct (own := RX5) (sh := zs_X5_digits) (M := zM_X5_digits) (cd := zc_X5_digits) (cut := zk_X5_digits) (by decide +kernel) rfl rfl rfl (z_fl_all zfl_X5_ok) (z_cs_all zcs_X5_ok) zo_X5_digits z_nothr (z_hcal (L := zl_X5_digits) zv_X5_digits (List.forall_mem_cons.mpr ⟨z_calV (l := l) (j := 125) (C := RX5) (cn := 3) (T := TX5) (N := 47) (zt_X5_fine l) (by decide +kernel) (by decide +kernel) rfl ⟨by decide +kernel, by decide +kernel, by decide +kernel⟩ (z_room (by omega) (by decide)) rfl zr_X5_fine, List.forall_mem_cons.mpr ⟨z_calS (l := l) (j := 133) (zt_X5_isDigit l) (by decide +kernel) (by decide +kernel) ⟨by decide +kernel, by decide +kernel, by decide +kernel⟩ (z_room (by omega) (by decide)), List.forall_mem_cons.mpr ⟨z_calV (l := l) (j := 129) (C := RX5) (cn := 3) (T := TX5) (N := 47) (zt_X5_wrong l) (by decide +kernel) (by decide +kernel) rfl ⟨by decide +kernel, by decide +kernel, by decide +kernel⟩ (z_room (by omega) (by decide)) rfl zr_X5_wrong, List.forall_mem_cons.mpr ⟨z_calV (l := l) (j := 136) (C := RX5) (cn := 3) (T := TX5) (N := 47) (zt_X5_emit l) (by decide +kernel) (by decide +kernel) rfl ⟨by decide +kernel, by decide +kernel, by decide +kernel⟩ (z_room (by omega) (by decide)) rfl zr_X5_emit, fun _ h => nomatch h⟩⟩⟩⟩)) (by decide)
theorem zr_X5_digits : ∀ vs g r, zF_X5_digits vs g = some r → ∃ i rv, vs = .inr (.inl (3, i, 0)) :: rv ∧ i < z_ni 3 := fun vs g r h => z_chk_rec (z_fn_chk (sh := zs_X5_digits) h).1 (Or.inl ⟨rfl, by decide⟩)
