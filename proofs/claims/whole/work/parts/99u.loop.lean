/-! ===== the law: its loop ===== -/
section Ll
variable {p : Program} {l : Launch} {e : Env} {s : State} {m : MethodId} {below : List Frame} {meth : Method} {c : Code} {b L i ao : Nat} {xs : Nat → Int32} {D : va_G} {ca : Nat → ClassId} {ad : zAD} {g : zSG} {H : Heap} {locs : List Loc} {cells slots : Nat} {ls : Array Slot} {cJ : ClassId} {f : Nat → Int64}
theorem la_sub {L i : Nat} (hL : L ≤ 3072) (hi : i ≤ 9999) : nI L - 6 < nI i ↔ L < i + 6 := by
  rw [Int32.lt_iff_toInt_lt, Int32.toInt_sub, nI_toInt (by omega), nI_toInt (by omega), show (6 : Int32).toInt = 6 from rfl]
  rw [Int.bmod_def]
  omega
set_option maxHeartbeats 4000000 in
theorem law_sw (hl : l.stackTraces = false) (C0 : lw_At p s m meth c b L xs) (hL : L ≤ 3072) (hi : i + 6 ≤ L) (hK : va_K D zCL (zTL ca) s) (hKJ : va_K D zCL [(cJ, .long)] s) (hE : zE0 ad (fun q => s.heap.size ≤ q) s s.heap) (hN1 : va_Nc (zEx 0) (zEx 2) s) (hN2 : va_Nc (zEx 0) (zEx 1) s) (hS : va_S (fun q => s.heap.size ≤ q) s.heap H locs) (hLI : zLI D ca ad (fun q => s.heap.size ≤ q) g H) (hO : zLO D ad (fun q => s.heap.size ≤ q) ao cJ f H) (hg : q_I g) (hls : lv_has ls 7 (zLS5 ad b ao i)) (hc : cells + 6 ≤ 601024) (hs : slots + 430 ≤ 7293034)
    (kk : ∀ (ad' : zAD) (g' : zSG) (f' : Nat → Int64) (H1 : Heap) (locs1 : List Loc) (ls1 : Array Slot), zAe ad ad' → q_I g' → zLI D ca ad' (fun q => s.heap.size ≤ q) g' H1 → zLO D ad' (fun q => s.heap.size ≤ q) ao cJ f' H1 → va_S (fun q => s.heap.size ≤ q) s.heap H1 locs1 → lv_has ls1 7 (zLS5 ad' b ao i) → W p l e room_1 s m #[Value.ref b] below meth c H1 locs1 (cells + 6) (slots + 430) (lw_Z below #[Value.ref b] s) (F0 m 1642 ls1 [])) (j : Nat) (hj : j < 32) : W p l e room_1 s m #[Value.ref b] below meth c H locs cells slots (lw_Z below #[Value.ref b] s) (F0 m 40 ls [.int (nI j)]) := by
  obtain ⟨hx, hb, hr, hml, hown, hts, hX, hbl, hlocks, hgv⟩ := id C0
  have d40 := (by decide +kernel : decode code 40 = .ok (.tableswitch 1602 0 22 #[108, 181, 261, 329, 397, 489, 569, 637, 717, 785, 865, 921, 989, 1092, 1105, 1161, 1174, 1242, 1317, 1373, 1429, 1497, 1577], 108))
  rcases Nat.lt_or_ge j 23 with hj2 | hj2
  · rcases (show j = 0 ∨ j = 1 ∨ j = 2 ∨ j = 3 ∨ j = 4 ∨ j = 5 ∨ j = 6 ∨ j = 7 ∨ j = 8 ∨ j = 9 ∨ j = 10 ∨ j = 11 ∨ j = 12 ∨ j = 13 ∨ j = 14 ∨ j = 15 ∨ j = 16 ∨ j = 17 ∨ j = 18 ∨ j = 19 ∨ j = 20 ∨ j = 21 ∨ j = 22 by omega) with rfl | rfl | rfl | rfl | rfl | rfl | rfl | rfl | rfl | rfl | rfl | rfl | rfl | rfl | rfl | rfl | rfl | rfl | rfl | rfl | rfl | rfl | rfl
    · exact lv_tableIn hx hb d40 (off := 108) (tgt := 148) (by decide) (by decide) (by decide) (by decide) (law_feed hl C0 hL hi hK hKJ hE hN1 hN2 hS hLI hO hg hls hc hs kk)
    · exact lv_tableIn hx hb d40 (off := 181) (tgt := 221) (by decide) (by decide) (by decide) (by decide) (law_text hl C0 hL hi hK hKJ hE hN1 hN2 hS hLI hO hg hls hc hs kk)
    · exact lv_tableIn hx hb d40 (off := 261) (tgt := 301) (by decide) (by decide) (by decide) (by decide) (law_begin hl C0 hL hi hK hKJ hE hN1 hN2 hS hLI hO hg hls hc hs kk)
    · exact lv_tableIn hx hb d40 (off := 329) (tgt := 369) (by decide) (by decide) (by decide) (by decide) (law_keep hl C0 hL hi hK hKJ hE hN1 hN2 hS hLI hO hg hls hc hs kk)
    · exact lv_tableIn hx hb d40 (off := 397) (tgt := 437) (by decide) (by decide) (by decide) (by decide) (law_ask hl C0 hL hi hK hKJ hE hN1 hN2 hS hLI hO hg hls hc hs kk)
    · exact lv_tableIn hx hb d40 (off := 489) (tgt := 529) (by decide) (by decide) (by decide) (by decide) (law_caused hl C0 hL hi hK hKJ hE hN1 hN2 hS hLI hO hg hls hc hs kk)
    · exact lv_tableIn hx hb d40 (off := 569) (tgt := 609) (by decide) (by decide) (by decide) (by decide) (law_fields hl C0 hL hi hK hKJ hE hN1 hN2 hS hLI hO hg hls hc hs kk)
    · exact lv_tableIn hx hb d40 (off := 637) (tgt := 677) (by decide) (by decide) (by decide) (by decide) (law_field hl C0 hL hi hK hKJ hE hN1 hN2 hS hLI hO hg hls hc hs kk)
    · exact lv_tableIn hx hb d40 (off := 717) (tgt := 757) (by decide) (by decide) (by decide) (by decide) (law_end hl C0 hL hi hK hKJ hE hN1 hN2 hS hLI hO hg hls hc hs kk)
    · exact lv_tableIn hx hb d40 (off := 785) (tgt := 825) (by decide) (by decide) (by decide) (by decide) (law_touched hl C0 hL hi hK hKJ hE hN1 hN2 hS hLI hO hg hls hc hs kk)
    · exact lv_tableIn hx hb d40 (off := 865) (tgt := 905) (by decide) (by decide) (by decide) (by decide) (law_calls hl C0 hL hi hK hKJ hE hN1 hN2 hS hLI hO hg hls hc hs kk)
    · exact lv_tableIn hx hb d40 (off := 921) (tgt := 961) (by decide) (by decide) (by decide) (by decide) (law_never hl C0 hL hi hK hKJ hE hN1 hN2 hS hLI hO hg hls hc hs kk)
    · exact lv_tableIn hx hb d40 (off := 989) (tgt := 1029) (by decide) (by decide) (by decide) (by decide) (law_noise hl C0 hL hi hK hKJ hE hN1 hN2 hS hLI hO hg hls hc hs kk)
    · exact lv_tableIn hx hb d40 (off := 1092) (tgt := 1132) (by decide) (by decide) (by decide) (by decide) (law_learn hl C0 hL hi hK hKJ hE hN1 hN2 hS hLI hO hg hls hc hs kk)
    · exact lv_tableIn hx hb d40 (off := 1105) (tgt := 1145) (by decide) (by decide) (by decide) (by decide) (law_differs hl C0 hL hi hK hKJ hE hN1 hN2 hS hLI hO hg hls hc hs kk)
    · exact lv_tableIn hx hb d40 (off := 1161) (tgt := 1201) (by decide) (by decide) (by decide) (by decide) (law_shapes hl C0 hL hi hK hKJ hE hN1 hN2 hS hLI hO hg hls hc hs kk)
    · exact lv_tableIn hx hb d40 (off := 1174) (tgt := 1214) (by decide) (by decide) (by decide) (by decide) (law_shape hl C0 hL hi hK hKJ hE hN1 hN2 hS hLI hO hg hls hc hs kk)
    · exact lv_tableIn hx hb d40 (off := 1242) (tgt := 1282) (by decide) (by decide) (by decide) (by decide) (law_touch hl C0 hL hi hK hKJ hE hN1 hN2 hS hLI hO hg hls hc hs kk)
    · exact lv_tableIn hx hb d40 (off := 1317) (tgt := 1357) (by decide) (by decide) (by decide) (by decide) (law_free hl C0 hL hi hK hKJ hE hN1 hN2 hS hLI hO hg hls hc hs kk)
    · exact lv_tableIn hx hb d40 (off := 1373) (tgt := 1413) (by decide) (by decide) (by decide) (by decide) (law_small hl C0 hL hi hK hKJ hE hN1 hN2 hS hLI hO hg hls hc hs kk)
    · exact lv_tableIn hx hb d40 (off := 1429) (tgt := 1469) (by decide) (by decide) (by decide) (by decide) (law_smallest hl C0 hL hi hK hKJ hE hN1 hN2 hS hLI hO hg hls hc hs kk)
    · exact lv_tableIn hx hb d40 (off := 1497) (tgt := 1537) (by decide) (by decide) (by decide) (by decide) (law_lag hl C0 hL hi hK hKJ hE hN1 hN2 hS hLI hO hg hls hc hs kk)
    · exact lv_tableIn hx hb d40 (off := 1577) (tgt := 1617) (by decide) (by decide) (by decide) (by decide) (law_count hl C0 hL hi hK hKJ hE hN1 hN2 hS hLI hO hg hls hc hs kk)
  · refine lv_tableOut hx hb d40 (tgt := 1642) (Or.inr (by rw [nI_toInt (by omega)]; omega)) (by decide) ?_
    exact W.widen (k := cells + 6) (n := slots + 430) (by omega) (by omega) (kk ad g f H locs ls (fun _ _ _ _ => rfl) hg hLI hO hS hls)
/-- the loop's head -/
theorem law_turn (hl : l.stackTraces = false) (C0 : lw_At p s m meth c b L xs) (hL : L ≤ 3072) (hi : i ≤ 9999) (hK : va_K D zCL (zTL ca) s) (hKJ : va_K D zCL [(cJ, .long)] s) (hE : zE0 ad (fun q => s.heap.size ≤ q) s s.heap) (hN1 : va_Nc (zEx 0) (zEx 2) s) (hN2 : va_Nc (zEx 0) (zEx 1) s) (hS : va_S (fun q => s.heap.size ≤ q) s.heap H locs) (hLI : zLI D ca ad (fun q => s.heap.size ≤ q) g H) (hO : zLO D ad (fun q => s.heap.size ≤ q) ao cJ f H) (hg : q_I g) (hls : lv_has ls 7 (zLS5 ad b ao i)) (hc : cells ≤ 601024) (hs : slots ≤ 7293034)
    (kk : i + 6 ≤ L → cells + 6 ≤ 601024 ∧ slots + 430 ≤ 7293034 ∧ (∀ (ad' : zAD) (g' : zSG) (f' : Nat → Int64) (H1 : Heap) (locs1 : List Loc) (ls1 : Array Slot), zAe ad ad' → q_I g' → zLI D ca ad' (fun q => s.heap.size ≤ q) g' H1 → zLO D ad' (fun q => s.heap.size ≤ q) ao cJ f' H1 → va_S (fun q => s.heap.size ≤ q) s.heap H1 locs1 → lv_has ls1 7 (zLS5 ad' b ao i) → W p l e room_1 s m #[Value.ref b] below meth c H1 locs1 (cells + 6) (slots + 430) (lw_Z below #[Value.ref b] s) (F0 m 1642 ls1 []))) : W p l e room_1 s m #[Value.ref b] below meth c H locs cells slots (lw_Z below #[Value.ref b] s) (F0 m 23 ls []) := by
  obtain ⟨hx, hb, hr, hml, hown, hts, hX, hbl, hlocks, hgv⟩ := id C0
  have hbA : ¬ (fun q : Nat => s.heap.size ≤ q) b := Nat.not_le.mpr hbl
  refine lv_iload hx hb (by decide +kernel : decode code 23 = .ok (.iload 4, 2)) (lv_at hls 0 rfl) ?_
  refine lv_aload_n hx hb (by decide +kernel : decode code 25 = .ok (.aload_n 0, 1)) rfl (lv_at hls 1 rfl) ?_
  refine va_slen hx hb hX hbl hbA hS (by decide +kernel : decode code 26 = .ok (.arraylength, 1)) ?_
  refine lv_bipush (v := 6) hx hb (by decide +kernel : decode code 27 = .ok (.bipush 6, 2)) rfl ?_
  refine lv_isub hx hb (by decide +kernel : decode code 29 = .ok (.isub, 1)) ?_
  refine lv_icmp_gt (tgt := 1648) hx hb (by decide +kernel : decode code 30 = .ok (.if_icmp .gt 1618, 3)) (by decide) (fun b1 => ?_) (fun b1 => ?_)
  · refine lv_iconst (v := 1) hx hb (by decide +kernel : decode code 1648 = .ok (.iconst 1, 1)) rfl ?_
    refine va_forget (fun q hq => hS.2.2 q hq) ?_
    refine W.widen (k := 601024) (n := 7293034) hc hs ?_
    exact lw_ret hx hb hr hlocks (by decide +kernel : decode code 1649 = .ok (.ireturn, 1))
  · have hi6 : i + 6 ≤ L := Nat.not_lt.mp (fun h => b1 ((la_sub hL hi).mpr h))
    obtain ⟨hc, hs, kk⟩ := kk hi6
    refine lv_aload_n hx hb (by decide +kernel : decode code 33 = .ok (.aload_n 0, 1)) rfl (lv_at hls 1 rfl) ?_
    refine lv_iload hx hb (by decide +kernel : decode code 34 = .ok (.iload 4, 2)) (lv_at hls 0 rfl) ?_
    refine va_sld hx hb hX hbl hbA hS (z_vpin (by omega) (by omega)) (by decide +kernel : decode code 36 = .ok (.iaload, 1)) ?_
    refine lv_bipush (v := 31) hx hb (by decide +kernel : decode code 37 = .ok (.bipush 31, 2)) rfl ?_
    refine lv_iand hx hb (by decide +kernel : decode code 39 = .ok (.iand, 1)) ?_
    obtain ⟨j, hj, ej⟩ := pk_andE (xs (nI i).toNatClampNeg) (m := 31) 5 (by decide)
    rw [ej]
    exact law_sw hl C0 hL hi6 hK hKJ hE hN1 hN2 hS hLI hO hg hls hc hs kk j hj
theorem law_loop (hl : l.stackTraces = false) (C0 : lw_At p s m meth c b L xs) (hL : L ≤ 3072) (hK : va_K D zCL (zTL ca) s) (hKJ : va_K D zCL [(cJ, .long)] s) (hN1 : va_Nc (zEx 0) (zEx 2) s) (hN2 : va_Nc (zEx 0) (zEx 1) s) : ∀ (n i cells slots : Nat) (ad : zAD) (g : zSG) (f : Nat → Int64) (H : Heap) (locs : List Loc) (ls : Array Slot), L < i + 6 + 6 * n → i ≤ 3080 → cells + 6 * n ≤ 601024 → slots + 430 * n ≤ 7293034 → zE0 ad (fun q => s.heap.size ≤ q) s s.heap → va_S (fun q => s.heap.size ≤ q) s.heap H locs → zLI D ca ad (fun q => s.heap.size ≤ q) g H → zLO D ad (fun q => s.heap.size ≤ q) ao cJ f H → q_I g → lv_has ls 7 (zLS5 ad b ao i) → W p l e room_1 s m #[Value.ref b] below meth c H locs cells slots (lw_Z below #[Value.ref b] s) (F0 m 23 ls []) := by
  obtain ⟨hx, hb, hr, hml, hown, hts, hX, hbl, hlocks, hgv⟩ := id C0
  intro n
  induction n with
  | zero =>
    intro i cells slots ad g f H locs ls h1 h2 hc hs hE hS hLI hO hg hls
    exact law_turn hl C0 hL (by omega) hK hKJ hE hN1 hN2 hS hLI hO hg hls hc hs (fun h => by omega)
  | succ n ih =>
    intro i cells slots ad g f H locs ls h1 h2 hc hs hE hS hLI hO hg hls
    have c1 : cells + 6 ≤ 601024 := by omega
    have c2 : cells + 6 + 6 * n ≤ 601024 := by omega
    rw [Nat.mul_succ, Nat.add_comm (430 * n), ← Nat.add_assoc] at hs
    have s2 : slots + 430 + 430 * n ≤ 7293034 := hs
    have s1 : slots + 430 ≤ 7293034 := Nat.le_trans (Nat.le_add_right _ _) s2
    have i1 : L < i + 6 + 6 + 6 * n := by omega
    clear hc hs h1
    refine law_turn hl C0 hL (Nat.le_trans h2 (by decide)) hK hKJ hE hN1 hN2 hS hLI hO hg hls (Nat.le_trans (Nat.le_add_right _ _) c1) (Nat.le_trans (Nat.le_add_right _ _) s1) (fun h => ⟨c1, s1, ?_⟩)
    intro ad1 g1 f1 H1 locs1 ls1 hae hg1 hL1 hO1 hS1 hl1
    refine lv_iinc (v := nI (i + 6)) (lv' := zLS5 ad1 b ao (i + 6)) hx hb (by decide +kernel : decode code 1642 = .ok (.iinc 4 6, 3)) hl1 (k := 0) rfl (by rw [← nI_add]; rfl) (by decide) rfl (fun ls hls => ?_)
    refine lv_goto (tgt := 23) hx hb (by decide +kernel : decode code 1645 = .ok (.goto (-1622), 3)) (by decide) ?_
    exact ih (i + 6) (cells + 6) (slots + 430) ad1 g1 f1 H1 locs1 ls i1 (by omega) c2 s2 (hE.ad hae) hS1 hL1 hO1 hg1 hls
end Ll
