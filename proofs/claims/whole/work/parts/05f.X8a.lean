section TW_05f_X8a
variable {p : Program} {l : Launch} {e : Env} {s : State} {m : MethodId} {args : Array Value} {below : List Frame} {meth : Method} {c : Code} {G : tw_G}
theorem cfX8_init : tw_CF yX8_init cX8_init 1 none 0 := ⟨tw_w593, tw_w56, by decide +kernel, by decide +kernel, by decide +kernel⟩
theorem kX8_init {σ : tw_St} {a : Nat} {q : tw_St} (h : fX8_init σ a = some q) : tw_is σ 8 a = some () := by
  unfold fX8_init at h
  obtain ⟨_, e1, -⟩ := tw_bd h
  exact e1
set_option maxRecDepth 100000 in
set_option maxHeartbeats 4000000 in
theorem mX8_init (l : Launch) (G : tw_G) {σ : tw_St} {a : Nat} {q : tw_St} (h : fX8_init σ a = some q) : tw_M l G yX8_init cX8_init 1 none rmX8_init 19 3006 σ [.ref a] none q := by
  unfold fX8_init at h
  obtain ⟨_, -, h⟩ := tw_bd h
  refine tw_M.of (by decide +kernel) (Nat.le_of_ble_eq_true rfl) (fun p e s m args below meth c hnm hO => ?_)
  have hO : tw_O p s m args meth c cX8_init RX8 1 none G := hO
  refine tw_aload_n 0 hO dX8_init_0 rfl rfl ?_
  refine tw_objI hO dX8_init_1 tw_w594 tw_w65 tw_w66 (Nat.le_of_ble_eq_true rfl) (Nat.le_of_ble_eq_true rfl) ?_
  refine tw_aload_n 0 hO dX8_init_4 rfl rfl ?_
  refine tw_sipush (v := 210) hO dX8_init_5 (by decide) ?_
  refine tw_newA (t := 20) (N := 210) hO dX8_init_8 ⟨by decide, by decide⟩ rfl tw_w90 (by decide) (by decide) (Nat.le_of_ble_eq_true rfl) (Nat.le_of_ble_eq_true rfl) (Nat.le_of_ble_eq_true rfl) ?_
  obtain ⟨σ10, e10, h⟩ := tw_bd h
  refine tw_putP hO hnm dX8_init_10 (t := 8) rfl 0 (by decide) rfl rfl tw_w595 rfl rfl ⟨rfl, rfl⟩ e10 ?_
  refine tw_aload_n 0 hO dX8_init_13 rfl rfl ?_
  refine tw_sipush (v := 1260) hO dX8_init_14 (by decide) ?_
  refine tw_newA (t := 20) (N := 1260) hO dX8_init_17 ⟨by decide, by decide⟩ rfl tw_w90 (by decide) (by decide) (Nat.le_of_ble_eq_true rfl) (Nat.le_of_ble_eq_true rfl) (Nat.le_of_ble_eq_true rfl) ?_
  obtain ⟨σ19, e19, h⟩ := tw_bd h
  refine tw_putP hO hnm dX8_init_19 (t := 8) rfl 1 (by decide) rfl rfl tw_w596 rfl rfl ⟨rfl, rfl⟩ e19 ?_
  refine tw_aload_n 0 hO dX8_init_22 rfl rfl ?_
  refine tw_sipush (v := 420) hO dX8_init_23 (by decide) ?_
  refine tw_newA (t := 20) (N := 420) hO dX8_init_26 ⟨by decide, by decide⟩ rfl tw_w90 (by decide) (by decide) (Nat.le_of_ble_eq_true rfl) (Nat.le_of_ble_eq_true rfl) (Nat.le_of_ble_eq_true rfl) ?_
  obtain ⟨σ28, e28, h⟩ := tw_bd h
  refine tw_putP hO hnm dX8_init_28 (t := 8) rfl 3 (by decide) rfl rfl tw_w598 rfl rfl ⟨rfl, rfl⟩ e28 ?_
  refine tw_aload_n 0 hO dX8_init_31 rfl rfl ?_
  refine tw_iconst (v := 2) hO dX8_init_32 (by decide) ?_
  refine tw_newA (t := 22) (N := 2) hO dX8_init_33 ⟨by decide, by decide⟩ rfl tw_w271 (by decide) (by decide) (Nat.le_of_ble_eq_true rfl) (Nat.le_of_ble_eq_true rfl) (Nat.le_of_ble_eq_true rfl) ?_
  obtain ⟨σ35, e35, h⟩ := tw_bd h
  refine tw_putP hO hnm dX8_init_35 (t := 8) rfl 4 (by decide) rfl rfl tw_w599 rfl rfl ⟨rfl, rfl⟩ e35 ?_
  refine tw_aload_n 0 hO dX8_init_38 rfl rfl ?_
  refine tw_bipush (v := 80) hO dX8_init_39 (by decide) ?_
  refine tw_newA (t := 20) (N := 80) hO dX8_init_41 ⟨by decide, by decide⟩ rfl tw_w90 (by decide) (by decide) (Nat.le_of_ble_eq_true rfl) (Nat.le_of_ble_eq_true rfl) (Nat.le_of_ble_eq_true rfl) ?_
  obtain ⟨σ43, e43, h⟩ := tw_bd h
  refine tw_putP hO hnm dX8_init_43 (t := 8) rfl 5 (by decide) rfl rfl tw_w600 rfl rfl ⟨rfl, rfl⟩ e43 ?_
  refine tw_aload_n 0 hO dX8_init_46 rfl rfl ?_
  refine tw_sipush (v := 150) hO dX8_init_47 (by decide) ?_
  refine tw_newA (t := 20) (N := 150) hO dX8_init_50 ⟨by decide, by decide⟩ rfl tw_w90 (by decide) (by decide) (Nat.le_of_ble_eq_true rfl) (Nat.le_of_ble_eq_true rfl) (Nat.le_of_ble_eq_true rfl) ?_
  obtain ⟨σ52, e52, h⟩ := tw_bd h
  refine tw_putP hO hnm dX8_init_52 (t := 8) rfl 7 (by decide) rfl rfl tw_w602 rfl rfl ⟨rfl, rfl⟩ e52 ?_
  refine tw_aload_n 0 hO dX8_init_55 rfl rfl ?_
  refine tw_bipush (v := 24) hO dX8_init_56 (by decide) ?_
  refine tw_newA (t := 20) (N := 24) hO dX8_init_58 ⟨by decide, by decide⟩ rfl tw_w90 (by decide) (by decide) (Nat.le_of_ble_eq_true rfl) (Nat.le_of_ble_eq_true rfl) (Nat.le_of_ble_eq_true rfl) ?_
  obtain ⟨σ60, e60, h⟩ := tw_bd h
  refine tw_putP hO hnm dX8_init_60 (t := 8) rfl 11 (by decide) rfl rfl tw_w606 rfl rfl ⟨rfl, rfl⟩ e60 ?_
  refine tw_aload_n 0 hO dX8_init_63 rfl rfl ?_
  refine tw_bipush (v := 8) hO dX8_init_64 (by decide) ?_
  refine tw_newA (t := 20) (N := 8) hO dX8_init_66 ⟨by decide, by decide⟩ rfl tw_w90 (by decide) (by decide) (Nat.le_of_ble_eq_true rfl) (Nat.le_of_ble_eq_true rfl) (Nat.le_of_ble_eq_true rfl) ?_
  obtain ⟨σ68, e68, h⟩ := tw_bd h
  refine tw_putP hO hnm dX8_init_68 (t := 8) rfl 12 (by decide) rfl rfl tw_w607 rfl rfl ⟨rfl, rfl⟩ e68 ?_
  refine tw_aload_n 0 hO dX8_init_71 rfl rfl ?_
  refine tw_sipush (v := 200) hO dX8_init_72 (by decide) ?_
  refine tw_newA (t := 20) (N := 200) hO dX8_init_75 ⟨by decide, by decide⟩ rfl tw_w90 (by decide) (by decide) (Nat.le_of_ble_eq_true rfl) (Nat.le_of_ble_eq_true rfl) (Nat.le_of_ble_eq_true rfl) ?_
  obtain ⟨σ77, e77, h⟩ := tw_bd h
  refine tw_putP hO hnm dX8_init_77 (t := 8) rfl 13 (by decide) rfl rfl tw_w608 rfl rfl ⟨rfl, rfl⟩ e77 ?_
  refine tw_aload_n 0 hO dX8_init_80 rfl rfl ?_
  refine tw_sipush (v := 200) hO dX8_init_81 (by decide) ?_
  refine tw_newA (t := 20) (N := 200) hO dX8_init_84 ⟨by decide, by decide⟩ rfl tw_w90 (by decide) (by decide) (Nat.le_of_ble_eq_true rfl) (Nat.le_of_ble_eq_true rfl) (Nat.le_of_ble_eq_true rfl) ?_
  obtain ⟨σ86, e86, h⟩ := tw_bd h
  refine tw_putP hO hnm dX8_init_86 (t := 8) rfl 14 (by decide) rfl rfl tw_w609 rfl rfl ⟨rfl, rfl⟩ e86 ?_
  refine tw_aload_n 0 hO dX8_init_89 rfl rfl ?_
  refine tw_sipush (v := 200) hO dX8_init_90 (by decide) ?_
  refine tw_newA (t := 20) (N := 200) hO dX8_init_93 ⟨by decide, by decide⟩ rfl tw_w90 (by decide) (by decide) (Nat.le_of_ble_eq_true rfl) (Nat.le_of_ble_eq_true rfl) (Nat.le_of_ble_eq_true rfl) ?_
  obtain ⟨σ95, e95, h⟩ := tw_bd h
  refine tw_putP hO hnm dX8_init_95 (t := 8) rfl 15 (by decide) rfl rfl tw_w610 rfl rfl ⟨rfl, rfl⟩ e95 ?_
  refine tw_aload_n 0 hO dX8_init_98 rfl rfl ?_
  refine tw_sipush (v := 200) hO dX8_init_99 (by decide) ?_
  refine tw_newA (t := 20) (N := 200) hO dX8_init_102 ⟨by decide, by decide⟩ rfl tw_w90 (by decide) (by decide) (Nat.le_of_ble_eq_true rfl) (Nat.le_of_ble_eq_true rfl) (Nat.le_of_ble_eq_true rfl) ?_
  obtain ⟨σ104, e104, h⟩ := tw_bd h
  refine tw_putP hO hnm dX8_init_104 (t := 8) rfl 16 (by decide) rfl rfl tw_w611 rfl rfl ⟨rfl, rfl⟩ e104 ?_
  refine tw_aload_n 0 hO dX8_init_107 rfl rfl ?_
  refine tw_iconst (v := 2) hO dX8_init_108 (by decide) ?_
  refine tw_newA (t := 20) (N := 2) hO dX8_init_109 ⟨by decide, by decide⟩ rfl tw_w90 (by decide) (by decide) (Nat.le_of_ble_eq_true rfl) (Nat.le_of_ble_eq_true rfl) (Nat.le_of_ble_eq_true rfl) ?_
  obtain ⟨σ111, e111, h⟩ := tw_bd h
  refine tw_putP hO hnm dX8_init_111 (t := 8) rfl 17 (by decide) rfl rfl tw_w612 rfl rfl ⟨rfl, rfl⟩ e111 ?_
  refine tw_aload_n 0 hO dX8_init_114 rfl rfl ?_
  refine tw_iconst (v := 2) hO dX8_init_115 (by decide) ?_
  refine tw_newA (t := 20) (N := 2) hO dX8_init_116 ⟨by decide, by decide⟩ rfl tw_w90 (by decide) (by decide) (Nat.le_of_ble_eq_true rfl) (Nat.le_of_ble_eq_true rfl) (Nat.le_of_ble_eq_true rfl) ?_
  obtain ⟨σ118, e118, h⟩ := tw_bd h
  refine tw_putP hO hnm dX8_init_118 (t := 8) rfl 18 (by decide) rfl rfl tw_w613 rfl rfl ⟨rfl, rfl⟩ e118 ?_
  refine tw_aload_n 0 hO dX8_init_121 rfl rfl ?_
  refine tw_bipush (v := 10) hO dX8_init_122 (by decide) ?_
  refine tw_newA (t := 20) (N := 10) hO dX8_init_124 ⟨by decide, by decide⟩ rfl tw_w90 (by decide) (by decide) (Nat.le_of_ble_eq_true rfl) (Nat.le_of_ble_eq_true rfl) (Nat.le_of_ble_eq_true rfl) ?_
  obtain ⟨σ126, e126, h⟩ := tw_bd h
  refine tw_putP hO hnm dX8_init_126 (t := 8) rfl 19 (by decide) rfl rfl tw_w614 rfl rfl ⟨rfl, rfl⟩ e126 ?_
  refine tw_aload_n 0 hO dX8_init_129 rfl rfl ?_
  refine tw_bipush (v := 10) hO dX8_init_130 (by decide) ?_
  refine tw_newA (t := 20) (N := 10) hO dX8_init_132 ⟨by decide, by decide⟩ rfl tw_w90 (by decide) (by decide) (Nat.le_of_ble_eq_true rfl) (Nat.le_of_ble_eq_true rfl) (Nat.le_of_ble_eq_true rfl) ?_
  obtain ⟨σ134, e134, h⟩ := tw_bd h
  refine tw_putP hO hnm dX8_init_134 (t := 8) rfl 20 (by decide) rfl rfl tw_w615 rfl rfl ⟨rfl, rfl⟩ e134 ?_
  refine tw_aload_n 0 hO dX8_init_137 rfl rfl ?_
  refine tw_iconst (v := 2) hO dX8_init_138 (by decide) ?_
  refine tw_newA (t := 20) (N := 2) hO dX8_init_139 ⟨by decide, by decide⟩ rfl tw_w90 (by decide) (by decide) (Nat.le_of_ble_eq_true rfl) (Nat.le_of_ble_eq_true rfl) (Nat.le_of_ble_eq_true rfl) ?_
  obtain ⟨σ141, e141, h⟩ := tw_bd h
  refine tw_putP hO hnm dX8_init_141 (t := 8) rfl 21 (by decide) rfl rfl tw_w616 rfl rfl ⟨rfl, rfl⟩ e141 ?_
  refine tw_aload_n 0 hO dX8_init_144 rfl rfl ?_
  refine tw_iconst (v := 2) hO dX8_init_145 (by decide) ?_
  refine tw_newA (t := 20) (N := 2) hO dX8_init_146 ⟨by decide, by decide⟩ rfl tw_w90 (by decide) (by decide) (Nat.le_of_ble_eq_true rfl) (Nat.le_of_ble_eq_true rfl) (Nat.le_of_ble_eq_true rfl) ?_
  obtain ⟨σ148, e148, h⟩ := tw_bd h
  refine tw_putP hO hnm dX8_init_148 (t := 8) rfl 22 (by decide) rfl rfl tw_w617 rfl rfl ⟨rfl, rfl⟩ e148 ?_
  refine tw_aload_n 0 hO dX8_init_151 rfl rfl ?_
  refine tw_bipush (v := 24) hO dX8_init_152 (by decide) ?_
  refine tw_newA (t := 20) (N := 24) hO dX8_init_154 ⟨by decide, by decide⟩ rfl tw_w90 (by decide) (by decide) (Nat.le_of_ble_eq_true rfl) (Nat.le_of_ble_eq_true rfl) (Nat.le_of_ble_eq_true rfl) ?_
  obtain ⟨σ156, e156, h⟩ := tw_bd h
  refine tw_putP hO hnm dX8_init_156 (t := 8) rfl 23 (by decide) rfl rfl tw_w618 rfl rfl ⟨rfl, rfl⟩ e156 ?_
  refine tw_aload_n 0 hO dX8_init_159 rfl rfl ?_
  obtain ⟨v160, e160, h⟩ := tw_bd h
  refine tw_getP hO dX8_init_160 (t := 8) rfl 0 (by decide) rfl tw_w595 rfl e160 ?_
  refine tw_iconst (v := 1) hO dX8_init_163 (by decide) ?_
  refine tw_iconst (v := 3) hO dX8_init_164 (by decide) ?_
  obtain ⟨σ165, e165, h⟩ := tw_bd h
  refine tw_iast hO dX8_init_165 e165 ?_
  refine tw_aload_n 0 hO dX8_init_166 rfl rfl ?_
  obtain ⟨v167, e167, h⟩ := tw_bd h
  refine tw_getP hO dX8_init_167 (t := 8) rfl 0 (by decide) rfl tw_w595 rfl e167 ?_
  refine tw_iconst (v := 2) hO dX8_init_170 (by decide) ?_
  refine tw_iconst (v := 4) hO dX8_init_171 (by decide) ?_
  obtain ⟨σ172, e172, h⟩ := tw_bd h
  refine tw_iast hO dX8_init_172 e172 ?_
  refine tw_wide (Nat.le_of_ble_eq_true rfl : _ ≤ 19) (Nat.le_of_ble_eq_true rfl : _ ≤ 3006) ?_
  exact tw_vret hO dX8_init_173 h
theorem cfX8_in : tw_CF yX8_in cX8_in 3 (some .boolean) 3 := ⟨tw_w674, tw_w56, by decide +kernel, by decide +kernel, by decide +kernel⟩
set_option maxRecDepth 100000 in
set_option maxHeartbeats 4000000 in
theorem mX8_in (l : Launch) (G : tw_G) {σ : tw_St} {x0 : Int32} {x1 : Int32} {x2 : Int32} {q : Int32} (h : fX8_in σ x0 x1 x2 = some q) : tw_M l G yX8_in cX8_in 3 (some .boolean) rmX8_in 0 0 σ [.int x0, .int x1, .int x2] (some (.int q)) σ := by
  unfold fX8_in at h
  refine tw_M.of (by decide +kernel) (Nat.le_of_ble_eq_true rfl) (fun p e s m args below meth c hnm hO => ?_)
  have hO : tw_O p s m args meth c cX8_in RX8 3 (some .boolean) G := hO
  refine tw_iload_n 0 hO dX8_in_0 rfl rfl ?_
  refine tw_iload_n 1 hO dX8_in_1 rfl rfl ?_
  refine tw_icmp_lt (tgt := 14) hO dX8_in_2 (by decide) (fun cc => ?_) (fun cc => ?_)
  · replace h := tw_ifp cc h
    refine tw_iconst (v := 0) hO dX8_in_14 (by decide) ?_
    exact tw_zretR hO rfl dX8_in_15 h
  · replace h := tw_ifn cc h
    refine tw_iload_n 0 hO dX8_in_5 rfl rfl ?_
    refine tw_iload_n 2 hO dX8_in_6 rfl rfl ?_
    refine tw_icmp_gt (tgt := 14) hO dX8_in_7 (by decide) (fun cc => ?_) (fun cc => ?_)
    · replace h := tw_ifp cc h
      refine tw_iconst (v := 0) hO dX8_in_14 (by decide) ?_
      exact tw_zretR hO rfl dX8_in_15 h
    · replace h := tw_ifn cc h
      refine tw_iconst (v := 1) hO dX8_in_10 (by decide) ?_
      refine tw_goto (tgt := 15) hO dX8_in_11 (by decide) ?_
      exact tw_zretR hO rfl dX8_in_15 h
theorem cfX8_record : tw_CF yX8_record cX8_record 2 none 0 := ⟨tw_w678, tw_w56, by decide +kernel, by decide +kernel, by decide +kernel⟩
theorem kX8_record {σ : tw_St} {a : Nat} {q : tw_St} (h : fX8_record σ a = some q) : tw_is σ 8 a = some () := by
  unfold fX8_record at h
  obtain ⟨_, e1, -⟩ := tw_bd h
  exact e1
set_option maxRecDepth 100000 in
set_option maxHeartbeats 4000000 in
theorem wX8_record_b81 (hO : tw_O p s m args meth c cX8_record RX8 2 none G) {σ : tw_St} {a0 : Nat} {q : tw_St} (h : fX8_record_b81 σ a0 = some q) : tw_X p l e rmX8_record s m args below meth c 2 G σ 0 0 (tw_Q below args s G 0 0 none q) 81 [(0, .ref a0)] [] := by
  unfold fX8_record_b81 at h
  refine tw_aload_n 0 hO dX8_record_81 rfl rfl ?_
  refine tw_dup hO dX8_record_82 rfl ?_
  obtain ⟨v83, e83, h⟩ := tw_bd h
  refine tw_getI hO dX8_record_83 (t := 8) rfl 2 (by decide) rfl tw_w597 rfl e83 ?_
  refine tw_iconst (v := 1) hO dX8_record_86 (by decide) ?_
  refine tw_iadd hO dX8_record_87 ?_
  obtain ⟨σ88, e88, h⟩ := tw_bd h
  refine tw_putI hO dX8_record_88 (t := 8) rfl 2 (by decide) rfl tw_w597 rfl rfl ⟨rfl, rfl⟩ e88 ?_
  exact tw_vret hO dX8_record_91 h
set_option maxRecDepth 100000 in
set_option maxHeartbeats 4000000 in
theorem wX8_record_h47 (hO : tw_O p s m args meth c cX8_record RX8 2 none G) {k47 : (tw_St → Nat → Int32 → Option (tw_St))} (hk47 : ∀ (σ : tw_St) (a0 : Nat) (x1 : Int32) (q : tw_St), k47 σ a0 x1 = some q → tw_X p l e rmX8_record s m args below meth c 2 G σ 0 0 (tw_Q below args s G 0 0 none q) 47 [(0, .ref a0), (1, .int x1)] []) {σ : tw_St} {a0 : Nat} {x1 : Int32} {q : tw_St} (h : fX8_record_h47 k47 σ a0 x1 = some q) : tw_X p l e rmX8_record s m args below meth c 2 G σ 0 0 (tw_Q below args s G 0 0 none q) 47 [(0, .ref a0), (1, .int x1)] [] := by
  unfold fX8_record_h47 at h
  refine tw_iload_n 1 hO dX8_record_47 rfl rfl ?_
  refine tw_sipush (v := 210) hO dX8_record_48 (by decide) ?_
  refine tw_icmp_ge (tgt := 81) hO dX8_record_51 (by decide) (fun cc => ?_) (fun cc => ?_)
  · replace h := tw_ifp cc h
    refine tw_sub [0] rfl ?_
    exact wX8_record_b81 hO h
  · replace h := tw_ifn cc h
    refine tw_aload_n 0 hO dX8_record_54 rfl rfl ?_
    obtain ⟨v55, e55, h⟩ := tw_bd h
    refine tw_getP hO dX8_record_55 (t := 8) rfl 1 (by decide) rfl tw_w596 rfl e55 ?_
    refine tw_aload_n 0 hO dX8_record_58 rfl rfl ?_
    obtain ⟨v59, e59, h⟩ := tw_bd h
    refine tw_getI hO dX8_record_59 (t := 8) rfl 2 (by decide) rfl tw_w597 rfl e59 ?_
    refine tw_sipush (v := 210) hO dX8_record_62 (by decide) ?_
    refine tw_imul hO dX8_record_65 ?_
    refine tw_iload_n 1 hO dX8_record_66 rfl rfl ?_
    refine tw_iadd hO dX8_record_67 ?_
    refine tw_aload_n 0 hO dX8_record_68 rfl rfl ?_
    obtain ⟨v69, e69, h⟩ := tw_bd h
    refine tw_getP hO dX8_record_69 (t := 8) rfl 0 (by decide) rfl tw_w595 rfl e69 ?_
    refine tw_iload_n 1 hO dX8_record_72 rfl rfl ?_
    obtain ⟨v73, e73, h⟩ := tw_bd h
    refine tw_iald hO dX8_record_73 e73 ?_
    obtain ⟨σ74, e74, h⟩ := tw_bd h
    refine tw_iast hO dX8_record_74 e74 ?_
    refine tw_iinc (q := 1) (v := (x1 + 1)) (lv' := [(1, .int (x1 + 1)), (0, .ref a0)]) hO dX8_record_75 rfl rfl (by decide) rfl ?_
    refine tw_goto (tgt := 47) hO dX8_record_78 (by decide) ?_
    refine tw_sub [1, 0] rfl ?_
    exact hk47 _ _ _ _ h
set_option maxRecDepth 100000 in
set_option maxHeartbeats 4000000 in
theorem wX8_record_l47 (hO : tw_O p s m args meth c cX8_record RX8 2 none G) : ∀ (n : Nat) (σ : tw_St) (a0 : Nat) (x1 : Int32) (q : tw_St), fX8_record_l47 n σ a0 x1 = some q → tw_X p l e rmX8_record s m args below meth c 2 G σ 0 0 (tw_Q below args s G 0 0 none q) 47 [(0, .ref a0), (1, .int x1)] [] := by
  intro n
  induction n with
  | zero => intro _ _ _ q h; cases (show (none : Option (tw_St)) = some q from h)
  | succ n ih => intro _ _ _ q h; exact wX8_record_h47 hO ih h
set_option maxRecDepth 100000 in
set_option maxHeartbeats 4000000 in
theorem wX8_record_b45 (hO : tw_O p s m args meth c cX8_record RX8 2 none G) {σ : tw_St} {a0 : Nat} {q : tw_St} (h : fX8_record_b45 σ a0 = some q) : tw_X p l e rmX8_record s m args below meth c 2 G σ 0 0 (tw_Q below args s G 0 0 none q) 45 [(0, .ref a0)] [] := by
  unfold fX8_record_b45 at h
  refine tw_iconst (v := 0) hO dX8_record_45 (by decide) ?_
  refine tw_istore_n (lv' := [(1, .int 0), (0, .ref a0)]) hO dX8_record_46 rfl (by decide) rfl ?_
  refine tw_sub [1, 0] rfl ?_
  exact wX8_record_l47 hO _ _ _ _ _ h
set_option maxRecDepth 100000 in
set_option maxHeartbeats 4000000 in
theorem wX8_record_b40 (hO : tw_O p s m args meth c cX8_record RX8 2 none G) {σ : tw_St} {a0 : Nat} {q : tw_St} (h : fX8_record_b40 σ a0 = some q) : tw_X p l e rmX8_record s m args below meth c 2 G σ 0 0 (tw_Q below args s G 0 0 none q) 40 [(0, .ref a0)] [] := by
  unfold fX8_record_b40 at h
  refine tw_aload_n 0 hO dX8_record_40 rfl rfl ?_
  refine tw_iconst (v := 5) hO dX8_record_41 (by decide) ?_
  obtain ⟨σ42, e42, h⟩ := tw_bd h
  refine tw_putI hO dX8_record_42 (t := 8) rfl 2 (by decide) rfl tw_w597 rfl rfl ⟨rfl, rfl⟩ e42 ?_
  exact wX8_record_b45 hO h
set_option maxRecDepth 100000 in
set_option maxHeartbeats 4000000 in
theorem wX8_record_h11 (hO : tw_O p s m args meth c cX8_record RX8 2 none G) {k11 : (tw_St → Nat → Int32 → Option (tw_St))} (hk11 : ∀ (σ : tw_St) (a0 : Nat) (x1 : Int32) (q : tw_St), k11 σ a0 x1 = some q → tw_X p l e rmX8_record s m args below meth c 2 G σ 0 0 (tw_Q below args s G 0 0 none q) 11 [(0, .ref a0), (1, .int x1)] []) {σ : tw_St} {a0 : Nat} {x1 : Int32} {q : tw_St} (h : fX8_record_h11 k11 σ a0 x1 = some q) : tw_X p l e rmX8_record s m args below meth c 2 G σ 0 0 (tw_Q below args s G 0 0 none q) 11 [(0, .ref a0), (1, .int x1)] [] := by
  unfold fX8_record_h11 at h
  refine tw_iload_n 1 hO dX8_record_11 rfl rfl ?_
  refine tw_sipush (v := 1050) hO dX8_record_12 (by decide) ?_
  refine tw_icmp_ge (tgt := 40) hO dX8_record_15 (by decide) (fun cc => ?_) (fun cc => ?_)
  · replace h := tw_ifp cc h
    refine tw_sub [0] rfl ?_
    exact wX8_record_b40 hO h
  · replace h := tw_ifn cc h
    refine tw_aload_n 0 hO dX8_record_18 rfl rfl ?_
    obtain ⟨v19, e19, h⟩ := tw_bd h
    refine tw_getP hO dX8_record_19 (t := 8) rfl 1 (by decide) rfl tw_w596 rfl e19 ?_
    refine tw_iload_n 1 hO dX8_record_22 rfl rfl ?_
    refine tw_aload_n 0 hO dX8_record_23 rfl rfl ?_
    obtain ⟨v24, e24, h⟩ := tw_bd h
    refine tw_getP hO dX8_record_24 (t := 8) rfl 1 (by decide) rfl tw_w596 rfl e24 ?_
    refine tw_iload_n 1 hO dX8_record_27 rfl rfl ?_
    refine tw_sipush (v := 210) hO dX8_record_28 (by decide) ?_
    refine tw_iadd hO dX8_record_31 ?_
    obtain ⟨v32, e32, h⟩ := tw_bd h
    refine tw_iald hO dX8_record_32 e32 ?_
    obtain ⟨σ33, e33, h⟩ := tw_bd h
    refine tw_iast hO dX8_record_33 e33 ?_
    refine tw_iinc (q := 1) (v := (x1 + 1)) (lv' := [(1, .int (x1 + 1)), (0, .ref a0)]) hO dX8_record_34 rfl rfl (by decide) rfl ?_
    refine tw_goto (tgt := 11) hO dX8_record_37 (by decide) ?_
    refine tw_sub [1, 0] rfl ?_
    exact hk11 _ _ _ _ h
set_option maxRecDepth 100000 in
set_option maxHeartbeats 4000000 in
theorem wX8_record_l11 (hO : tw_O p s m args meth c cX8_record RX8 2 none G) : ∀ (n : Nat) (σ : tw_St) (a0 : Nat) (x1 : Int32) (q : tw_St), fX8_record_l11 n σ a0 x1 = some q → tw_X p l e rmX8_record s m args below meth c 2 G σ 0 0 (tw_Q below args s G 0 0 none q) 11 [(0, .ref a0), (1, .int x1)] [] := by
  intro n
  induction n with
  | zero => intro _ _ _ q h; cases (show (none : Option (tw_St)) = some q from h)
  | succ n ih => intro _ _ _ q h; exact wX8_record_h11 hO ih h
set_option maxRecDepth 100000 in
set_option maxHeartbeats 4000000 in
theorem mX8_record (l : Launch) (G : tw_G) {σ : tw_St} {a : Nat} {q : tw_St} (h : fX8_record σ a = some q) : tw_M l G yX8_record cX8_record 2 none rmX8_record 0 0 σ [.ref a] none q := by
  unfold fX8_record at h
  obtain ⟨_, -, h⟩ := tw_bd h
  refine tw_M.of (by decide +kernel) (Nat.le_of_ble_eq_true rfl) (fun p e s m args below meth c hnm hO => ?_)
  have hO : tw_O p s m args meth c cX8_record RX8 2 none G := hO
  refine tw_aload_n 0 hO dX8_record_0 rfl rfl ?_
  obtain ⟨v1, e1, h⟩ := tw_bd h
  refine tw_getI hO dX8_record_1 (t := 8) rfl 2 (by decide) rfl tw_w597 rfl e1 ?_
  refine tw_bipush (v := 6) hO dX8_record_4 (by decide) ?_
  refine tw_icmp_ne (tgt := 45) hO dX8_record_6 (by decide) (fun cc => ?_) (fun cc => ?_)
  · replace h := tw_ifn cc h
    exact wX8_record_b45 hO h
  · replace h := tw_ifp cc h
    refine tw_iconst (v := 0) hO dX8_record_9 (by decide) ?_
    refine tw_istore_n (lv' := [(1, .int 0), (0, .ref a)]) hO dX8_record_10 rfl (by decide) rfl ?_
    refine tw_sub [1, 0] rfl ?_
    exact wX8_record_l11 hO _ _ _ _ _ h
theorem cfX8_set : tw_CF yX8_set cX8_set 4 (some .int) 2 := ⟨tw_w671, tw_w56, by decide +kernel, by decide +kernel, by decide +kernel⟩
theorem kX8_set {σ : tw_St} {a : Nat} {x1 : Int32} {x2 : Int32} {q : Int32 × tw_St} (h : fX8_set σ a x1 x2 = some q) : tw_is σ 8 a = some () := by
  unfold fX8_set at h
  obtain ⟨_, e1, -⟩ := tw_bd h
  exact e1
set_option maxRecDepth 100000 in
set_option maxHeartbeats 4000000 in
theorem wX8_set_b29 (hO : tw_O p s m args meth c cX8_set RX8 4 (some .int) G) {σ : tw_St} {a0 : Nat} {x1 : Int32} {x2 : Int32} {z0 : Int32} {z1 : Int32} {z2 : Int32} {q : Int32 × tw_St} (h : fX8_set_b29 σ a0 x1 x2 z0 z1 z2 = some q) : tw_X p l e rmX8_set s m args below meth c 4 G σ 0 0 (tw_Q below args s G 0 0 (some (.int q.1)) q.2) 29 [(0, .ref a0), (1, .int x1), (2, .int x2)] [.int z0, .int z1, .int z2] := by
  unfold fX8_set_b29 at h
  obtain ⟨v29, e29, h⟩ := tw_bd h
  refine tw_cSi hO (mX8_in l G e29) cfX8_in tw_w672 tw_w673 rfl rfl rfl rfl ⟨(Nat.le_of_ble_eq_true rfl), (Nat.le_of_ble_eq_true rfl)⟩ (Nat.le_of_ble_eq_true rfl) ⟨(Nat.le_of_ble_eq_true rfl), (Nat.le_of_ble_eq_true rfl)⟩ dX8_set_29 ?_
  refine tw_if_ne (tgt := 38) hO dX8_set_32 (by decide) (fun cc => ?_) (fun cc => ?_)
  · replace h := tw_ifn cc h
    refine tw_aload_n 0 hO dX8_set_38 rfl rfl ?_
    obtain ⟨σ39, e39, h⟩ := tw_bd h
    refine tw_cVv hO (mX8_record l G e39) cfX8_record (t := 8) rfl (kX8_record e39) tw_w675 tw_w677 tw_w21 rfl rfl rfl rfl ⟨(Nat.le_of_ble_eq_true rfl), (Nat.le_of_ble_eq_true rfl)⟩ (Nat.le_of_ble_eq_true rfl) ⟨(Nat.le_of_ble_eq_true rfl), (Nat.le_of_ble_eq_true rfl)⟩ dX8_set_39 ?_
    refine tw_aload_n 0 hO dX8_set_42 rfl rfl ?_
    obtain ⟨v43, e43, h⟩ := tw_bd h
    refine tw_getP hO dX8_set_43 (t := 8) rfl 0 (by decide) rfl tw_w595 rfl e43 ?_
    refine tw_iload_n 1 hO dX8_set_46 rfl rfl ?_
    obtain ⟨v47, e47, h⟩ := tw_bd h
    refine tw_iald hO dX8_set_47 e47 ?_
    refine tw_istore_n (lv' := [(3, .int v47), (0, .ref a0), (1, .int x1), (2, .int x2)]) hO dX8_set_48 rfl (by decide) rfl ?_
    refine tw_aload_n 1 hO dX8_set_49 rfl rfl ?_
    obtain ⟨v50, e50, h⟩ := tw_bd h
    refine tw_getP hO dX8_set_50 (t := 8) rfl 0 (by decide) rfl tw_w595 rfl e50 ?_
    refine tw_iload_n 2 hO dX8_set_53 rfl rfl ?_
    refine tw_iload_n 3 hO dX8_set_54 rfl rfl ?_
    obtain ⟨σ55, e55, h⟩ := tw_bd h
    refine tw_iast hO dX8_set_55 e55 ?_
    refine tw_iload_n 0 hO dX8_set_56 rfl rfl ?_
    exact tw_iret hO dX8_set_57 h
  · replace h := tw_ifp cc h
    refine tw_bipush (v := (-2)) hO dX8_set_35 (by decide) ?_
    exact tw_iret hO dX8_set_37 h
set_option maxRecDepth 100000 in
set_option maxHeartbeats 4000000 in
theorem wX8_set_b19 (hO : tw_O p s m args meth c cX8_set RX8 4 (some .int) G) {σ : tw_St} {a0 : Nat} {x1 : Int32} {x2 : Int32} {z0 : Int32} {z1 : Int32} {q : Int32 × tw_St} (h : fX8_set_b19 σ a0 x1 x2 z0 z1 = some q) : tw_X p l e rmX8_set s m args below meth c 4 G σ 0 0 (tw_Q below args s G 0 0 (some (.int q.1)) q.2) 19 [(0, .ref a0), (1, .int x1), (2, .int x2)] [.int z0, .int z1] := by
  unfold fX8_set_b19 at h
  refine tw_iload_n 1 hO dX8_set_19 rfl rfl ?_
  refine tw_if_ne (tgt := 27) hO dX8_set_20 (by decide) (fun cc => ?_) (fun cc => ?_)
  · replace h := tw_ifn cc h
    refine tw_bipush (v := 9) hO dX8_set_27 (by decide) ?_
    exact wX8_set_b29 hO h
  · replace h := tw_ifp cc h
    refine tw_iconst (v := 2) hO dX8_set_23 (by decide) ?_
    refine tw_goto (tgt := 29) hO dX8_set_24 (by decide) ?_
    exact wX8_set_b29 hO h
set_option maxRecDepth 100000 in
set_option maxHeartbeats 4000000 in
theorem mX8_set (l : Launch) (G : tw_G) {σ : tw_St} {a : Nat} {x1 : Int32} {x2 : Int32} {q : Int32 × tw_St} (h : fX8_set σ a x1 x2 = some q) : tw_M l G yX8_set cX8_set 4 (some .int) rmX8_set 0 0 σ [.ref a, .int x1, .int x2] (some (.int q.1)) q.2 := by
  unfold fX8_set at h
  obtain ⟨_, -, h⟩ := tw_bd h
  refine tw_M.of (by decide +kernel) (Nat.le_of_ble_eq_true rfl) (fun p e s m args below meth c hnm hO => ?_)
  have hO : tw_O p s m args meth c cX8_set RX8 4 (some .int) G := hO
  refine tw_iload_n 1 hO dX8_set_0 rfl rfl ?_
  refine tw_iconst (v := 0) hO dX8_set_1 (by decide) ?_
  refine tw_iconst (v := 2) hO dX8_set_2 (by decide) ?_
  obtain ⟨v3, e3, h⟩ := tw_bd h
  refine tw_cSi hO (mX8_in l G e3) cfX8_in tw_w672 tw_w673 rfl rfl rfl rfl ⟨(Nat.le_of_ble_eq_true rfl), (Nat.le_of_ble_eq_true rfl)⟩ (Nat.le_of_ble_eq_true rfl) ⟨(Nat.le_of_ble_eq_true rfl), (Nat.le_of_ble_eq_true rfl)⟩ dX8_set_3 ?_
  refine tw_if_eq (tgt := 35) hO dX8_set_6 (by decide) (fun cc => ?_) (fun cc => ?_)
  · replace h := tw_ifp cc h
    refine tw_bipush (v := (-2)) hO dX8_set_35 (by decide) ?_
    exact tw_iret hO dX8_set_37 h
  · replace h := tw_ifn cc h
    refine tw_iload_n 2 hO dX8_set_9 rfl rfl ?_
    refine tw_iload_n 1 hO dX8_set_10 rfl rfl ?_
    refine tw_if_ne (tgt := 18) hO dX8_set_11 (by decide) (fun cc => ?_) (fun cc => ?_)
    · replace h := tw_ifn cc h
      refine tw_iconst (v := 1) hO dX8_set_18 (by decide) ?_
      exact wX8_set_b19 hO h
    · replace h := tw_ifp cc h
      refine tw_iconst (v := 0) hO dX8_set_14 (by decide) ?_
      refine tw_goto (tgt := 19) hO dX8_set_15 (by decide) ?_
      exact wX8_set_b19 hO h
theorem cfX8_isThread : tw_CF yX8_isThread cX8_isThread 1 (some .boolean) 1 := ⟨tw_w685, tw_w56, by decide +kernel, by decide +kernel, by decide +kernel⟩
set_option maxRecDepth 100000 in
set_option maxHeartbeats 4000000 in
theorem mX8_isThread (l : Launch) (G : tw_G) {σ : tw_St} {x0 : Int32} {q : Int32} (h : fX8_isThread σ x0 = some q) : tw_M l G yX8_isThread cX8_isThread 1 (some .boolean) rmX8_isThread 0 0 σ [.int x0] (some (.int q)) σ := by
  unfold fX8_isThread at h
  refine tw_M.of (by decide +kernel) (Nat.le_of_ble_eq_true rfl) (fun p e s m args below meth c hnm hO => ?_)
  have hO : tw_O p s m args meth c cX8_isThread RX8 1 (some .boolean) G := hO
  refine tw_iload_n 0 hO dX8_isThread_0 rfl rfl ?_
  refine tw_iconst (v := 0) hO dX8_isThread_1 (by decide) ?_
  refine tw_iconst (v := 1) hO dX8_isThread_2 (by decide) ?_
  obtain ⟨v3, e3, h⟩ := tw_bd h
  refine tw_cSi hO (mX8_in l G e3) cfX8_in tw_w672 tw_w673 rfl rfl rfl rfl ⟨(Nat.le_of_ble_eq_true rfl), (Nat.le_of_ble_eq_true rfl)⟩ (Nat.le_of_ble_eq_true rfl) ⟨(Nat.le_of_ble_eq_true rfl), (Nat.le_of_ble_eq_true rfl)⟩ dX8_isThread_3 ?_
  obtain ⟨_, hz, h⟩ := tw_bd h
  exact tw_zretR hO (tw_bz_sp hz).2.1 dX8_isThread_6 h
theorem cfX8_first : tw_CF yX8_first cX8_first 6 (some .int) 3 := ⟨tw_w682, tw_w56, by decide +kernel, by decide +kernel, by decide +kernel⟩
theorem kX8_first {σ : tw_St} {a : Nat} {x1 : Int32} {x2 : Int32} {x3 : Int32} {q : Int32 × tw_St} (h : fX8_first σ a x1 x2 x3 = some q) : tw_is σ 8 a = some () := by
  unfold fX8_first at h
  obtain ⟨_, e1, -⟩ := tw_bd h
  exact e1
set_option maxRecDepth 100000 in
set_option maxHeartbeats 4000000 in
theorem mX8_first (l : Launch) (G : tw_G) {σ : tw_St} {a : Nat} {x1 : Int32} {x2 : Int32} {x3 : Int32} {q : Int32 × tw_St} (h : fX8_first σ a x1 x2 x3 = some q) : tw_M l G yX8_first cX8_first 6 (some .int) rmX8_first 0 0 σ [.ref a, .int x1, .int x2, .int x3] (some (.int q.1)) q.2 := by
  unfold fX8_first at h
  obtain ⟨_, -, h⟩ := tw_bd h
  refine tw_M.of (by decide +kernel) (Nat.le_of_ble_eq_true rfl) (fun p e s m args below meth c hnm hO => ?_)
  have hO : tw_O p s m args meth c cX8_first RX8 6 (some .int) G := hO
  refine tw_iload_n 1 hO dX8_first_0 rfl rfl ?_
  obtain ⟨v1, e1, h⟩ := tw_bd h
  refine tw_cSi hO (mX8_isThread l G e1) cfX8_isThread tw_w683 tw_w684 rfl rfl rfl rfl ⟨(Nat.le_of_ble_eq_true rfl), (Nat.le_of_ble_eq_true rfl)⟩ (Nat.le_of_ble_eq_true rfl) ⟨(Nat.le_of_ble_eq_true rfl), (Nat.le_of_ble_eq_true rfl)⟩ dX8_first_1 ?_
  refine tw_if_eq (tgt := 17) hO dX8_first_4 (by decide) (fun cc => ?_) (fun cc => ?_)
  · replace h := tw_ifp cc h
    refine tw_iconst (v := (-1)) hO dX8_first_17 (by decide) ?_
    exact tw_iret hO dX8_first_18 h
  · replace h := tw_ifn cc h
    refine tw_iload_n 2 hO dX8_first_7 rfl rfl ?_
    refine tw_iconst (v := 0) hO dX8_first_8 (by decide) ?_
    refine tw_bipush (v := 11) hO dX8_first_9 (by decide) ?_
    obtain ⟨v11, e11, h⟩ := tw_bd h
    refine tw_cSi hO (mX8_in l G e11) cfX8_in tw_w672 tw_w673 rfl rfl rfl rfl ⟨(Nat.le_of_ble_eq_true rfl), (Nat.le_of_ble_eq_true rfl)⟩ (Nat.le_of_ble_eq_true rfl) ⟨(Nat.le_of_ble_eq_true rfl), (Nat.le_of_ble_eq_true rfl)⟩ dX8_first_11 ?_
    refine tw_if_ne (tgt := 19) hO dX8_first_14 (by decide) (fun cc => ?_) (fun cc => ?_)
    · replace h := tw_ifn cc h
      refine tw_iload_n 3 hO dX8_first_19 rfl rfl ?_
      refine tw_iconst (v := 0) hO dX8_first_20 (by decide) ?_
      refine tw_sipush (v := 999) hO dX8_first_21 (by decide) ?_
      obtain ⟨v24, e24, h⟩ := tw_bd h
      refine tw_cSi hO (mX8_in l G e24) cfX8_in tw_w672 tw_w673 rfl rfl rfl rfl ⟨(Nat.le_of_ble_eq_true rfl), (Nat.le_of_ble_eq_true rfl)⟩ (Nat.le_of_ble_eq_true rfl) ⟨(Nat.le_of_ble_eq_true rfl), (Nat.le_of_ble_eq_true rfl)⟩ dX8_first_24 ?_
      refine tw_if_ne (tgt := 33) hO dX8_first_27 (by decide) (fun cc => ?_) (fun cc => ?_)
      · replace h := tw_ifn cc h
        refine tw_aload_n 0 hO dX8_first_33 rfl rfl ?_
        obtain ⟨σ34, e34, h⟩ := tw_bd h
        refine tw_cVv hO (mX8_record l G e34) cfX8_record (t := 8) rfl (kX8_record e34) tw_w675 tw_w677 tw_w21 rfl rfl rfl rfl ⟨(Nat.le_of_ble_eq_true rfl), (Nat.le_of_ble_eq_true rfl)⟩ (Nat.le_of_ble_eq_true rfl) ⟨(Nat.le_of_ble_eq_true rfl), (Nat.le_of_ble_eq_true rfl)⟩ dX8_first_34 ?_
        refine tw_bipush (v := 10) hO dX8_first_37 (by decide) ?_
        refine tw_bipush (v := 100) hO dX8_first_39 (by decide) ?_
        refine tw_iload_n 1 hO dX8_first_41 rfl rfl ?_
        refine tw_imul hO dX8_first_42 ?_
        refine tw_iadd hO dX8_first_43 ?_
        refine tw_bipush (v := 70) hO dX8_first_44 (by decide) ?_
        refine tw_iadd hO dX8_first_46 ?_
        refine tw_iload_n 2 hO dX8_first_47 rfl rfl ?_
        refine tw_iadd hO dX8_first_48 ?_
        refine tw_istore (lv' := [(4, .int (((10 + (100 * x1)) + 70) + x2)), (0, .ref a), (1, .int x1), (2, .int x2), (3, .int x3)]) hO dX8_first_49 (by decide) rfl ?_
        refine tw_aload_n 1 hO dX8_first_51 rfl rfl ?_
        obtain ⟨v52, e52, h⟩ := tw_bd h
        refine tw_getP hO dX8_first_52 (t := 8) rfl 0 (by decide) rfl tw_w595 rfl e52 ?_
        refine tw_iload 0 hO dX8_first_55 rfl ?_
        obtain ⟨v57, e57, h⟩ := tw_bd h
        refine tw_iald hO dX8_first_57 e57 ?_
        refine tw_istore (lv' := [(5, .int v57), (4, .int (((10 + (100 * x1)) + 70) + x2)), (0, .ref a), (1, .int x1), (2, .int x2), (3, .int x3)]) hO dX8_first_58 (by decide) rfl ?_
        refine tw_aload_n 2 hO dX8_first_60 rfl rfl ?_
        obtain ⟨v61, e61, h⟩ := tw_bd h
        refine tw_getP hO dX8_first_61 (t := 8) rfl 0 (by decide) rfl tw_w595 rfl e61 ?_
        refine tw_iload 1 hO dX8_first_64 rfl ?_
        refine tw_iload_n 5 hO dX8_first_66 rfl rfl ?_
        obtain ⟨σ67, e67, h⟩ := tw_bd h
        refine tw_iast hO dX8_first_67 e67 ?_
        refine tw_iload 0 hO dX8_first_68 rfl ?_
        exact tw_iret hO dX8_first_70 h
      · replace h := tw_ifp cc h
        refine tw_bipush (v := (-2)) hO dX8_first_30 (by decide) ?_
        exact tw_iret hO dX8_first_32 h
    · replace h := tw_ifp cc h
      refine tw_iconst (v := (-1)) hO dX8_first_17 (by decide) ?_
      exact tw_iret hO dX8_first_18 h
theorem cfX8_sign : tw_CF yX8_sign cX8_sign 1 (some .int) 0 := ⟨tw_w710, tw_w56, by decide +kernel, by decide +kernel, by decide +kernel⟩
theorem kX8_sign {σ : tw_St} {a : Nat} {q : Int32} (h : fX8_sign σ a = some q) : tw_is σ 8 a = some () := by
  unfold fX8_sign at h
  obtain ⟨_, e1, -⟩ := tw_bd h
  exact e1
set_option maxRecDepth 100000 in
set_option maxHeartbeats 4000000 in
theorem mX8_sign (l : Launch) (G : tw_G) {σ : tw_St} {a : Nat} {q : Int32} (h : fX8_sign σ a = some q) : tw_M l G yX8_sign cX8_sign 1 (some .int) rmX8_sign 0 0 σ [.ref a] (some (.int q)) σ := by
  unfold fX8_sign at h
  obtain ⟨_, -, h⟩ := tw_bd h
  refine tw_M.of (by decide +kernel) (Nat.le_of_ble_eq_true rfl) (fun p e s m args below meth c hnm hO => ?_)
  have hO : tw_O p s m args meth c cX8_sign RX8 1 (some .int) G := hO
  refine tw_aload_n 0 hO dX8_sign_0 rfl rfl ?_
  obtain ⟨v1, e1, h⟩ := tw_bd h
  refine tw_getI hO dX8_sign_1 (t := 8) rfl 9 (by decide) rfl tw_w604 rfl e1 ?_
  refine tw_aload_n 0 hO dX8_sign_4 rfl rfl ?_
  obtain ⟨v5, e5, h⟩ := tw_bd h
  refine tw_getI hO dX8_sign_5 (t := 8) rfl 6 (by decide) rfl tw_w601 rfl e5 ?_
  refine tw_icmp_ge (tgt := 23) hO dX8_sign_8 (by decide) (fun cc => ?_) (fun cc => ?_)
  · replace h := tw_ifp cc h
    refine tw_iconst (v := 0) hO dX8_sign_23 (by decide) ?_
    exact tw_iretR hO dX8_sign_24 h
  · replace h := tw_ifn cc h
    refine tw_aload_n 0 hO dX8_sign_11 rfl rfl ?_
    obtain ⟨v12, e12, h⟩ := tw_bd h
    refine tw_getP hO dX8_sign_12 (t := 8) rfl 5 (by decide) rfl tw_w600 rfl e12 ?_
    refine tw_aload_n 0 hO dX8_sign_15 rfl rfl ?_
    obtain ⟨v16, e16, h⟩ := tw_bd h
    refine tw_getI hO dX8_sign_16 (t := 8) rfl 9 (by decide) rfl tw_w604 rfl e16 ?_
    obtain ⟨v19, e19, h⟩ := tw_bd h
    refine tw_iald hO dX8_sign_19 e19 ?_
    refine tw_goto (tgt := 24) hO dX8_sign_20 (by decide) ?_
    exact tw_iretR hO dX8_sign_24 h
theorem cfX8_between : tw_CF yX8_between cX8_between 2 none 1 := ⟨tw_w718, tw_w56, by decide +kernel, by decide +kernel, by decide +kernel⟩
theorem kX8_between {σ : tw_St} {a : Nat} {x1 : Int32} {q : tw_St} (h : fX8_between σ a x1 = some q) : tw_is σ 8 a = some () := by
  unfold fX8_between at h
  obtain ⟨_, e1, -⟩ := tw_bd h
  exact e1
set_option maxRecDepth 100000 in
set_option maxHeartbeats 4000000 in
theorem wX8_between_b41 (hO : tw_O p s m args meth c cX8_between RX8 2 none G) {σ : tw_St} {z0 : Int32} {z1 : Int32} {z2 : Nat} {q : tw_St} (h : fX8_between_b41 σ z0 z1 z2 = some q) : tw_X p l e rmX8_between s m args below meth c 2 G σ 0 0 (tw_Q below args s G 0 0 none q) 41 [] [.int z0, .int z1, .ref z2] := by
  unfold fX8_between_b41 at h
  refine tw_iadd hO dX8_between_41 ?_
  obtain ⟨σ42, e42, h⟩ := tw_bd h
  refine tw_putI hO dX8_between_42 (t := 8) rfl 9 (by decide) rfl tw_w604 rfl rfl ⟨rfl, rfl⟩ e42 ?_
  exact tw_vret hO dX8_between_45 h
set_option maxRecDepth 100000 in
set_option maxHeartbeats 4000000 in
theorem wX8_between_b21 (hO : tw_O p s m args meth c cX8_between RX8 2 none G) {σ : tw_St} {a0 : Nat} {z0 : Int32} {z1 : Nat} {q : tw_St} (h : fX8_between_b21 σ a0 z0 z1 = some q) : tw_X p l e rmX8_between s m args below meth c 2 G σ 0 0 (tw_Q below args s G 0 0 none q) 21 [(0, .ref a0)] [.int z0, .ref z1] := by
  unfold fX8_between_b21 at h
  obtain ⟨_, hz21, h⟩ := tw_bd h
  obtain ⟨σ21, e21, h⟩ := tw_bd h
  refine tw_putI hO dX8_between_21 (t := 8) rfl 10 (by decide) rfl tw_w605 rfl rfl (tw_bz_sp hz21).2 e21 ?_
  refine tw_aload_n 0 hO dX8_between_24 rfl rfl ?_
  refine tw_dup hO dX8_between_25 rfl ?_
  obtain ⟨v26, e26, h⟩ := tw_bd h
  refine tw_getI hO dX8_between_26 (t := 8) rfl 9 (by decide) rfl tw_w604 rfl e26 ?_
  refine tw_aload_n 0 hO dX8_between_29 rfl rfl ?_
  obtain ⟨v30, e30, h⟩ := tw_bd h
  refine tw_getI hO dX8_between_30 (t := 8) rfl 10 (by decide) rfl tw_w605 rfl e30 ?_
  refine tw_if_eq (tgt := 40) hO dX8_between_33 (by decide) (fun cc => ?_) (fun cc => ?_)
  · replace h := tw_ifp cc h
    refine tw_iconst (v := 1) hO dX8_between_40 (by decide) ?_
    refine tw_sub [] rfl ?_
    exact wX8_between_b41 hO h
  · replace h := tw_ifn cc h
    refine tw_iconst (v := 0) hO dX8_between_36 (by decide) ?_
    refine tw_goto (tgt := 41) hO dX8_between_37 (by decide) ?_
    refine tw_sub [] rfl ?_
    exact wX8_between_b41 hO h
set_option maxRecDepth 100000 in
set_option maxHeartbeats 4000000 in
theorem wX8_between_b16 (hO : tw_O p s m args meth c cX8_between RX8 2 none G) {σ : tw_St} {a0 : Nat} {z0 : Nat} {q : tw_St} (h : fX8_between_b16 σ a0 z0 = some q) : tw_X p l e rmX8_between s m args below meth c 2 G σ 0 0 (tw_Q below args s G 0 0 none q) 16 [(0, .ref a0)] [.ref z0] := by
  unfold fX8_between_b16 at h
  refine tw_iconst (v := 1) hO dX8_between_16 (by decide) ?_
  refine tw_goto (tgt := 21) hO dX8_between_17 (by decide) ?_
  exact wX8_between_b21 hO h
set_option maxRecDepth 100000 in
set_option maxHeartbeats 4000000 in
theorem mX8_between (l : Launch) (G : tw_G) {σ : tw_St} {a : Nat} {x1 : Int32} {q : tw_St} (h : fX8_between σ a x1 = some q) : tw_M l G yX8_between cX8_between 2 none rmX8_between 0 0 σ [.ref a, .int x1] none q := by
  unfold fX8_between at h
  obtain ⟨_, -, h⟩ := tw_bd h
  refine tw_M.of (by decide +kernel) (Nat.le_of_ble_eq_true rfl) (fun p e s m args below meth c hnm hO => ?_)
  have hO : tw_O p s m args meth c cX8_between RX8 2 none G := hO
  refine tw_aload_n 0 hO dX8_between_0 rfl rfl ?_
  refine tw_aload_n 0 hO dX8_between_1 rfl rfl ?_
  obtain ⟨v2, e2, h⟩ := tw_bd h
  refine tw_getI hO dX8_between_2 (t := 8) rfl 10 (by decide) rfl tw_w605 rfl e2 ?_
  refine tw_if_ne (tgt := 16) hO dX8_between_5 (by decide) (fun cc => ?_) (fun cc => ?_)
  · replace h := tw_ifn cc h
    refine tw_sub [0] rfl ?_
    exact wX8_between_b16 hO h
  · replace h := tw_ifp cc h
    refine tw_aload_n 0 hO dX8_between_8 rfl rfl ?_
    obtain ⟨v9, e9, h⟩ := tw_bd h
    refine tw_cVi hO (mX8_sign l G e9) cfX8_sign (t := 8) rfl (kX8_sign e9) tw_w707 tw_w709 tw_w24 rfl rfl rfl rfl ⟨(Nat.le_of_ble_eq_true rfl), (Nat.le_of_ble_eq_true rfl)⟩ (Nat.le_of_ble_eq_true rfl) ⟨(Nat.le_of_ble_eq_true rfl), (Nat.le_of_ble_eq_true rfl)⟩ dX8_between_9 ?_
    refine tw_iload_n 1 hO dX8_between_12 rfl rfl ?_
    refine tw_icmp_eq (tgt := 20) hO dX8_between_13 (by decide) (fun cc => ?_) (fun cc => ?_)
    · replace h := tw_ifp cc h
      refine tw_iconst (v := 0) hO dX8_between_20 (by decide) ?_
      refine tw_sub [0] rfl ?_
      exact wX8_between_b21 hO h
    · replace h := tw_ifn cc h
      refine tw_sub [0] rfl ?_
      exact wX8_between_b16 hO h
theorem cfX8_register : tw_CF yX8_register cX8_register 2 (some .int) 0 := ⟨tw_w714, tw_w56, by decide +kernel, by decide +kernel, by decide +kernel⟩
theorem kX8_register {σ : tw_St} {a : Nat} {q : Int32 × tw_St} (h : fX8_register σ a = some q) : tw_is σ 8 a = some () := by
  unfold fX8_register at h
  obtain ⟨_, e1, -⟩ := tw_bd h
  exact e1
set_option maxRecDepth 100000 in
set_option maxHeartbeats 4000000 in
theorem wX8_register_b50 (hO : tw_O p s m args meth c cX8_register RX8 2 (some .int) G) {σ : tw_St} {x1 : Int32} {z0 : Int32} {z1 : Int32} {z2 : Nat} {q : Int32 × tw_St} (h : fX8_register_b50 σ x1 z0 z1 z2 = some q) : tw_X p l e rmX8_register s m args below meth c 2 G σ 0 0 (tw_Q below args s G 0 0 (some (.int q.1)) q.2) 50 [(1, .int x1)] [.int z0, .int z1, .ref z2] := by
  unfold fX8_register_b50 at h
  refine tw_iadd hO dX8_register_50 ?_
  obtain ⟨σ51, e51, h⟩ := tw_bd h
  refine tw_putI hO dX8_register_51 (t := 8) rfl 9 (by decide) rfl tw_w604 rfl rfl ⟨rfl, rfl⟩ e51 ?_
  refine tw_iload_n 0 hO dX8_register_54 rfl rfl ?_
  exact tw_iret hO dX8_register_55 h
set_option maxRecDepth 100000 in
set_option maxHeartbeats 4000000 in
theorem wX8_register_b30 (hO : tw_O p s m args meth c cX8_register RX8 2 (some .int) G) {σ : tw_St} {a0 : Nat} {x1 : Int32} {z0 : Int32} {z1 : Nat} {q : Int32 × tw_St} (h : fX8_register_b30 σ a0 x1 z0 z1 = some q) : tw_X p l e rmX8_register s m args below meth c 2 G σ 0 0 (tw_Q below args s G 0 0 (some (.int q.1)) q.2) 30 [(0, .ref a0), (1, .int x1)] [.int z0, .ref z1] := by
  unfold fX8_register_b30 at h
  obtain ⟨_, hz30, h⟩ := tw_bd h
  obtain ⟨σ30, e30, h⟩ := tw_bd h
  refine tw_putI hO dX8_register_30 (t := 8) rfl 10 (by decide) rfl tw_w605 rfl rfl (tw_bz_sp hz30).2 e30 ?_
  refine tw_aload_n 0 hO dX8_register_33 rfl rfl ?_
  refine tw_dup hO dX8_register_34 rfl ?_
  obtain ⟨v35, e35, h⟩ := tw_bd h
  refine tw_getI hO dX8_register_35 (t := 8) rfl 9 (by decide) rfl tw_w604 rfl e35 ?_
  refine tw_aload_n 0 hO dX8_register_38 rfl rfl ?_
  obtain ⟨v39, e39, h⟩ := tw_bd h
  refine tw_getI hO dX8_register_39 (t := 8) rfl 10 (by decide) rfl tw_w605 rfl e39 ?_
  refine tw_if_eq (tgt := 49) hO dX8_register_42 (by decide) (fun cc => ?_) (fun cc => ?_)
  · replace h := tw_ifp cc h
    refine tw_iconst (v := 1) hO dX8_register_49 (by decide) ?_
    refine tw_sub [1] rfl ?_
    exact wX8_register_b50 hO h
  · replace h := tw_ifn cc h
    refine tw_iconst (v := 0) hO dX8_register_45 (by decide) ?_
    refine tw_goto (tgt := 50) hO dX8_register_46 (by decide) ?_
    refine tw_sub [1] rfl ?_
    exact wX8_register_b50 hO h
set_option maxRecDepth 100000 in
set_option maxHeartbeats 4000000 in
theorem wX8_register_b25 (hO : tw_O p s m args meth c cX8_register RX8 2 (some .int) G) {σ : tw_St} {a0 : Nat} {x1 : Int32} {z0 : Nat} {q : Int32 × tw_St} (h : fX8_register_b25 σ a0 x1 z0 = some q) : tw_X p l e rmX8_register s m args below meth c 2 G σ 0 0 (tw_Q below args s G 0 0 (some (.int q.1)) q.2) 25 [(0, .ref a0), (1, .int x1)] [.ref z0] := by
  unfold fX8_register_b25 at h
  refine tw_iconst (v := 1) hO dX8_register_25 (by decide) ?_
  refine tw_goto (tgt := 30) hO dX8_register_26 (by decide) ?_
  exact wX8_register_b30 hO h
set_option maxRecDepth 100000 in
set_option maxHeartbeats 4000000 in
theorem mX8_register (l : Launch) (G : tw_G) {σ : tw_St} {a : Nat} {q : Int32 × tw_St} (h : fX8_register σ a = some q) : tw_M l G yX8_register cX8_register 2 (some .int) rmX8_register 0 0 σ [.ref a] (some (.int q.1)) q.2 := by
  unfold fX8_register at h
  obtain ⟨_, -, h⟩ := tw_bd h
  refine tw_M.of (by decide +kernel) (Nat.le_of_ble_eq_true rfl) (fun p e s m args below meth c hnm hO => ?_)
  have hO : tw_O p s m args meth c cX8_register RX8 2 (some .int) G := hO
  refine tw_aload_n 0 hO dX8_register_0 rfl rfl ?_
  obtain ⟨v1, e1, h⟩ := tw_bd h
  refine tw_cVi hO (mX8_sign l G e1) cfX8_sign (t := 8) rfl (kX8_sign e1) tw_w707 tw_w709 tw_w24 rfl rfl rfl rfl ⟨(Nat.le_of_ble_eq_true rfl), (Nat.le_of_ble_eq_true rfl)⟩ (Nat.le_of_ble_eq_true rfl) ⟨(Nat.le_of_ble_eq_true rfl), (Nat.le_of_ble_eq_true rfl)⟩ dX8_register_1 ?_
  refine tw_bipush (v := 97) hO dX8_register_4 (by decide) ?_
  refine tw_isub hO dX8_register_6 ?_
  refine tw_istore_n (lv' := [(1, .int (v1 - 97)), (0, .ref a)]) hO dX8_register_7 rfl (by decide) rfl ?_
  refine tw_aload_n 1 hO dX8_register_8 rfl rfl ?_
  refine tw_aload_n 1 hO dX8_register_9 rfl rfl ?_
  obtain ⟨v10, e10, h⟩ := tw_bd h
  refine tw_getI hO dX8_register_10 (t := 8) rfl 10 (by decide) rfl tw_w605 rfl e10 ?_
  refine tw_if_ne (tgt := 25) hO dX8_register_13 (by decide) (fun cc => ?_) (fun cc => ?_)
  · replace h := tw_ifn cc h
    refine tw_sub [1, 0] rfl ?_
    exact wX8_register_b25 hO h
  · replace h := tw_ifp cc h
    refine tw_iload_n 0 hO dX8_register_16 rfl rfl ?_
    refine tw_iconst (v := 0) hO dX8_register_17 (by decide) ?_
    refine tw_iconst (v := 3) hO dX8_register_18 (by decide) ?_
    obtain ⟨v19, e19, h⟩ := tw_bd h
    refine tw_cSi hO (mX8_in l G e19) cfX8_in tw_w672 tw_w673 rfl rfl rfl rfl ⟨(Nat.le_of_ble_eq_true rfl), (Nat.le_of_ble_eq_true rfl)⟩ (Nat.le_of_ble_eq_true rfl) ⟨(Nat.le_of_ble_eq_true rfl), (Nat.le_of_ble_eq_true rfl)⟩ dX8_register_19 ?_
    refine tw_if_ne (tgt := 29) hO dX8_register_22 (by decide) (fun cc => ?_) (fun cc => ?_)
    · replace h := tw_ifn cc h
      refine tw_iconst (v := 0) hO dX8_register_29 (by decide) ?_
      refine tw_sub [1, 0] rfl ?_
      exact wX8_register_b30 hO h
    · replace h := tw_ifp cc h
      refine tw_sub [1, 0] rfl ?_
      exact wX8_register_b25 hO h
theorem cfX8_number : tw_CF yX8_number cX8_number 2 (some .int) 0 := ⟨tw_w726, tw_w56, by decide +kernel, by decide +kernel, by decide +kernel⟩
theorem kX8_number {σ : tw_St} {a : Nat} {q : Int32 × tw_St} (h : fX8_number σ a = some q) : tw_is σ 8 a = some () := by
  unfold fX8_number at h
  obtain ⟨_, e1, -⟩ := tw_bd h
  exact e1
set_option maxRecDepth 100000 in
set_option maxHeartbeats 4000000 in
theorem wX8_number_h55 (hO : tw_O p s m args meth c cX8_number RX8 2 (some .int) G) {k55 : (tw_St → Nat → Int32 → Option (Int32 × tw_St))} (hk55 : ∀ (σ : tw_St) (a0 : Nat) (x1 : Int32) (q : Int32 × tw_St), k55 σ a0 x1 = some q → tw_X p l e rmX8_number s m args below meth c 2 G σ 0 0 (tw_Q below args s G 0 0 (some (.int q.1)) q.2) 55 [(0, .ref a0), (1, .int x1)] []) {σ : tw_St} {a0 : Nat} {x1 : Int32} {q : Int32 × tw_St} (h : fX8_number_h55 k55 σ a0 x1 = some q) : tw_X p l e rmX8_number s m args below meth c 2 G σ 0 0 (tw_Q below args s G 0 0 (some (.int q.1)) q.2) 55 [(0, .ref a0), (1, .int x1)] [] := by
  unfold fX8_number_h55 at h
  refine tw_aload_n 0 hO dX8_number_55 rfl rfl ?_
  obtain ⟨v56, e56, h⟩ := tw_bd h
  refine tw_getI hO dX8_number_56 (t := 8) rfl 10 (by decide) rfl tw_w605 rfl e56 ?_
  refine tw_if_ne (tgt := 123) hO dX8_number_59 (by decide) (fun cc => ?_) (fun cc => ?_)
  · replace h := tw_ifn cc h
    refine tw_iload_n 1 hO dX8_number_123 rfl rfl ?_
    exact tw_iret hO dX8_number_124 h
  · replace h := tw_ifp cc h
    refine tw_iload_n 1 hO dX8_number_62 rfl rfl ?_
    refine tw_if_le (tgt := 123) hO dX8_number_63 (by decide) (fun cc => ?_) (fun cc => ?_)
    · replace h := tw_ifp cc h
      refine tw_iload_n 1 hO dX8_number_123 rfl rfl ?_
      exact tw_iret hO dX8_number_124 h
    · replace h := tw_ifn cc h
      refine tw_aload_n 0 hO dX8_number_66 rfl rfl ?_
      obtain ⟨v67, e67, h⟩ := tw_bd h
      refine tw_cVi hO (mX8_sign l G e67) cfX8_sign (t := 8) rfl (kX8_sign e67) tw_w707 tw_w709 tw_w24 rfl rfl rfl rfl ⟨(Nat.le_of_ble_eq_true rfl), (Nat.le_of_ble_eq_true rfl)⟩ (Nat.le_of_ble_eq_true rfl) ⟨(Nat.le_of_ble_eq_true rfl), (Nat.le_of_ble_eq_true rfl)⟩ dX8_number_67 ?_
      refine tw_bipush (v := 48) hO dX8_number_70 (by decide) ?_
      refine tw_bipush (v := 57) hO dX8_number_72 (by decide) ?_
      obtain ⟨v74, e74, h⟩ := tw_bd h
      refine tw_cSi hO (mX8_in l G e74) cfX8_in tw_w672 tw_w673 rfl rfl rfl rfl ⟨(Nat.le_of_ble_eq_true rfl), (Nat.le_of_ble_eq_true rfl)⟩ (Nat.le_of_ble_eq_true rfl) ⟨(Nat.le_of_ble_eq_true rfl), (Nat.le_of_ble_eq_true rfl)⟩ dX8_number_74 ?_
      refine tw_if_eq (tgt := 123) hO dX8_number_77 (by decide) (fun cc => ?_) (fun cc => ?_)
      · replace h := tw_ifp cc h
        refine tw_iload_n 1 hO dX8_number_123 rfl rfl ?_
        exact tw_iret hO dX8_number_124 h
      · replace h := tw_ifn cc h
        refine tw_bipush (v := 10) hO dX8_number_80 (by decide) ?_
        refine tw_iload_n 1 hO dX8_number_82 rfl rfl ?_
        refine tw_imul hO dX8_number_83 ?_
        refine tw_aload_n 0 hO dX8_number_84 rfl rfl ?_
        obtain ⟨v85, e85, h⟩ := tw_bd h
        refine tw_cVi hO (mX8_sign l G e85) cfX8_sign (t := 8) rfl (kX8_sign e85) tw_w707 tw_w709 tw_w24 rfl rfl rfl rfl ⟨(Nat.le_of_ble_eq_true rfl), (Nat.le_of_ble_eq_true rfl)⟩ (Nat.le_of_ble_eq_true rfl) ⟨(Nat.le_of_ble_eq_true rfl), (Nat.le_of_ble_eq_true rfl)⟩ dX8_number_85 ?_
        refine tw_iadd hO dX8_number_88 ?_
        refine tw_bipush (v := 48) hO dX8_number_89 (by decide) ?_
        refine tw_isub hO dX8_number_91 ?_
        refine tw_bipush (v := 99) hO dX8_number_92 (by decide) ?_
        refine tw_icmp_gt (tgt := 123) hO dX8_number_94 (by decide) (fun cc => ?_) (fun cc => ?_)
        · replace h := tw_ifp cc h
          refine tw_iload_n 1 hO dX8_number_123 rfl rfl ?_
          exact tw_iret hO dX8_number_124 h
        · replace h := tw_ifn cc h
          refine tw_bipush (v := 10) hO dX8_number_97 (by decide) ?_
          refine tw_iload_n 1 hO dX8_number_99 rfl rfl ?_
          refine tw_imul hO dX8_number_100 ?_
          refine tw_aload_n 0 hO dX8_number_101 rfl rfl ?_
          obtain ⟨v102, e102, h⟩ := tw_bd h
          refine tw_cVi hO (mX8_sign l G e102) cfX8_sign (t := 8) rfl (kX8_sign e102) tw_w707 tw_w709 tw_w24 rfl rfl rfl rfl ⟨(Nat.le_of_ble_eq_true rfl), (Nat.le_of_ble_eq_true rfl)⟩ (Nat.le_of_ble_eq_true rfl) ⟨(Nat.le_of_ble_eq_true rfl), (Nat.le_of_ble_eq_true rfl)⟩ dX8_number_102 ?_
          refine tw_iadd hO dX8_number_105 ?_
          refine tw_bipush (v := 48) hO dX8_number_106 (by decide) ?_
          refine tw_isub hO dX8_number_108 ?_
          refine tw_istore_n (lv' := [(1, .int (((10 * x1) + v102) - 48)), (0, .ref a0)]) hO dX8_number_109 rfl (by decide) rfl ?_
          refine tw_aload_n 1 hO dX8_number_110 rfl rfl ?_
          refine tw_dup hO dX8_number_111 rfl ?_
          obtain ⟨v112, e112, h⟩ := tw_bd h
          refine tw_getI hO dX8_number_112 (t := 8) rfl 9 (by decide) rfl tw_w604 rfl e112 ?_
          refine tw_iconst (v := 1) hO dX8_number_115 (by decide) ?_
          refine tw_iadd hO dX8_number_116 ?_
          obtain ⟨σ117, e117, h⟩ := tw_bd h
          refine tw_putI hO dX8_number_117 (t := 8) rfl 9 (by decide) rfl tw_w604 rfl rfl ⟨rfl, rfl⟩ e117 ?_
          refine tw_goto (tgt := 55) hO dX8_number_120 (by decide) ?_
          refine tw_sub [1, 0] rfl ?_
          exact hk55 _ _ _ _ h
set_option maxRecDepth 100000 in
set_option maxHeartbeats 4000000 in
theorem wX8_number_l55 (hO : tw_O p s m args meth c cX8_number RX8 2 (some .int) G) : ∀ (n : Nat) (σ : tw_St) (a0 : Nat) (x1 : Int32) (q : Int32 × tw_St), fX8_number_l55 n σ a0 x1 = some q → tw_X p l e rmX8_number s m args below meth c 2 G σ 0 0 (tw_Q below args s G 0 0 (some (.int q.1)) q.2) 55 [(0, .ref a0), (1, .int x1)] [] := by
  intro n
  induction n with
  | zero => intro _ _ _ q h; cases (show (none : Option (Int32 × tw_St)) = some q from h)
  | succ n ih => intro _ _ _ q h; exact wX8_number_h55 hO ih h
set_option maxRecDepth 100000 in
set_option maxHeartbeats 4000000 in
theorem wX8_number_b51 (hO : tw_O p s m args meth c cX8_number RX8 2 (some .int) G) {σ : tw_St} {a0 : Nat} {x1 : Int32} {z0 : Int32} {z1 : Int32} {z2 : Nat} {q : Int32 × tw_St} (h : fX8_number_b51 σ a0 x1 z0 z1 z2 = some q) : tw_X p l e rmX8_number s m args below meth c 2 G σ 0 0 (tw_Q below args s G 0 0 (some (.int q.1)) q.2) 51 [(0, .ref a0), (1, .int x1)] [.int z0, .int z1, .ref z2] := by
  unfold fX8_number_b51 at h
  refine tw_iadd hO dX8_number_51 ?_
  obtain ⟨σ52, e52, h⟩ := tw_bd h
  refine tw_putI hO dX8_number_52 (t := 8) rfl 9 (by decide) rfl tw_w604 rfl rfl ⟨rfl, rfl⟩ e52 ?_
  exact wX8_number_l55 hO _ _ _ _ _ h
set_option maxRecDepth 100000 in
set_option maxHeartbeats 4000000 in
theorem wX8_number_b31 (hO : tw_O p s m args meth c cX8_number RX8 2 (some .int) G) {σ : tw_St} {a0 : Nat} {x1 : Int32} {z0 : Int32} {z1 : Nat} {q : Int32 × tw_St} (h : fX8_number_b31 σ a0 x1 z0 z1 = some q) : tw_X p l e rmX8_number s m args below meth c 2 G σ 0 0 (tw_Q below args s G 0 0 (some (.int q.1)) q.2) 31 [(0, .ref a0), (1, .int x1)] [.int z0, .ref z1] := by
  unfold fX8_number_b31 at h
  obtain ⟨_, hz31, h⟩ := tw_bd h
  obtain ⟨σ31, e31, h⟩ := tw_bd h
  refine tw_putI hO dX8_number_31 (t := 8) rfl 10 (by decide) rfl tw_w605 rfl rfl (tw_bz_sp hz31).2 e31 ?_
  refine tw_aload_n 0 hO dX8_number_34 rfl rfl ?_
  refine tw_dup hO dX8_number_35 rfl ?_
  obtain ⟨v36, e36, h⟩ := tw_bd h
  refine tw_getI hO dX8_number_36 (t := 8) rfl 9 (by decide) rfl tw_w604 rfl e36 ?_
  refine tw_aload_n 0 hO dX8_number_39 rfl rfl ?_
  obtain ⟨v40, e40, h⟩ := tw_bd h
  refine tw_getI hO dX8_number_40 (t := 8) rfl 10 (by decide) rfl tw_w605 rfl e40 ?_
  refine tw_if_eq (tgt := 50) hO dX8_number_43 (by decide) (fun cc => ?_) (fun cc => ?_)
  · replace h := tw_ifp cc h
    refine tw_iconst (v := 1) hO dX8_number_50 (by decide) ?_
    exact wX8_number_b51 hO h
  · replace h := tw_ifn cc h
    refine tw_iconst (v := 0) hO dX8_number_46 (by decide) ?_
    refine tw_goto (tgt := 51) hO dX8_number_47 (by decide) ?_
    exact wX8_number_b51 hO h
set_option maxRecDepth 100000 in
set_option maxHeartbeats 4000000 in
theorem wX8_number_b26 (hO : tw_O p s m args meth c cX8_number RX8 2 (some .int) G) {σ : tw_St} {a0 : Nat} {x1 : Int32} {z0 : Nat} {q : Int32 × tw_St} (h : fX8_number_b26 σ a0 x1 z0 = some q) : tw_X p l e rmX8_number s m args below meth c 2 G σ 0 0 (tw_Q below args s G 0 0 (some (.int q.1)) q.2) 26 [(0, .ref a0), (1, .int x1)] [.ref z0] := by
  unfold fX8_number_b26 at h
  refine tw_iconst (v := 1) hO dX8_number_26 (by decide) ?_
  refine tw_goto (tgt := 31) hO dX8_number_27 (by decide) ?_
  exact wX8_number_b31 hO h
set_option maxRecDepth 100000 in
set_option maxHeartbeats 4000000 in
theorem mX8_number (l : Launch) (G : tw_G) {σ : tw_St} {a : Nat} {q : Int32 × tw_St} (h : fX8_number σ a = some q) : tw_M l G yX8_number cX8_number 2 (some .int) rmX8_number 0 0 σ [.ref a] (some (.int q.1)) q.2 := by
  unfold fX8_number at h
  obtain ⟨_, -, h⟩ := tw_bd h
  refine tw_M.of (by decide +kernel) (Nat.le_of_ble_eq_true rfl) (fun p e s m args below meth c hnm hO => ?_)
  have hO : tw_O p s m args meth c cX8_number RX8 2 (some .int) G := hO
  refine tw_aload_n 0 hO dX8_number_0 rfl rfl ?_
  obtain ⟨v1, e1, h⟩ := tw_bd h
  refine tw_cVi hO (mX8_sign l G e1) cfX8_sign (t := 8) rfl (kX8_sign e1) tw_w707 tw_w709 tw_w24 rfl rfl rfl rfl ⟨(Nat.le_of_ble_eq_true rfl), (Nat.le_of_ble_eq_true rfl)⟩ (Nat.le_of_ble_eq_true rfl) ⟨(Nat.le_of_ble_eq_true rfl), (Nat.le_of_ble_eq_true rfl)⟩ dX8_number_1 ?_
  refine tw_bipush (v := 48) hO dX8_number_4 (by decide) ?_
  refine tw_isub hO dX8_number_6 ?_
  refine tw_istore_n (lv' := [(1, .int (v1 - 48)), (0, .ref a)]) hO dX8_number_7 rfl (by decide) rfl ?_
  refine tw_aload_n 1 hO dX8_number_8 rfl rfl ?_
  refine tw_aload_n 1 hO dX8_number_9 rfl rfl ?_
  obtain ⟨v10, e10, h⟩ := tw_bd h
  refine tw_getI hO dX8_number_10 (t := 8) rfl 10 (by decide) rfl tw_w605 rfl e10 ?_
  refine tw_if_ne (tgt := 26) hO dX8_number_13 (by decide) (fun cc => ?_) (fun cc => ?_)
  · replace h := tw_ifn cc h
    refine tw_sub [1, 0] rfl ?_
    exact wX8_number_b26 hO h
  · replace h := tw_ifp cc h
    refine tw_iload_n 0 hO dX8_number_16 rfl rfl ?_
    refine tw_iconst (v := 0) hO dX8_number_17 (by decide) ?_
    refine tw_bipush (v := 9) hO dX8_number_18 (by decide) ?_
    obtain ⟨v20, e20, h⟩ := tw_bd h
    refine tw_cSi hO (mX8_in l G e20) cfX8_in tw_w672 tw_w673 rfl rfl rfl rfl ⟨(Nat.le_of_ble_eq_true rfl), (Nat.le_of_ble_eq_true rfl)⟩ (Nat.le_of_ble_eq_true rfl) ⟨(Nat.le_of_ble_eq_true rfl), (Nat.le_of_ble_eq_true rfl)⟩ dX8_number_20 ?_
    refine tw_if_ne (tgt := 30) hO dX8_number_23 (by decide) (fun cc => ?_) (fun cc => ?_)
    · replace h := tw_ifn cc h
      refine tw_iconst (v := 0) hO dX8_number_30 (by decide) ?_
      refine tw_sub [1, 0] rfl ?_
      exact wX8_number_b31 hO h
    · replace h := tw_ifp cc h
      refine tw_sub [1, 0] rfl ?_
      exact wX8_number_b26 hO h
theorem cfX8_lay : tw_CF yX8_lay cX8_lay 7 none 5 := ⟨tw_w722, tw_w56, by decide +kernel, by decide +kernel, by decide +kernel⟩
theorem kX8_lay {σ : tw_St} {a : Nat} {x1 : Int32} {x2 : Int32} {x3 : Int32} {x4 : Int32} {x5 : Int32} {q : tw_St} (h : fX8_lay σ a x1 x2 x3 x4 x5 = some q) : tw_is σ 8 a = some () := by
  unfold fX8_lay at h
  obtain ⟨_, e1, -⟩ := tw_bd h
  exact e1
set_option maxRecDepth 100000 in
set_option maxHeartbeats 4000000 in
theorem mX8_lay (l : Launch) (G : tw_G) {σ : tw_St} {a : Nat} {x1 : Int32} {x2 : Int32} {x3 : Int32} {x4 : Int32} {x5 : Int32} {q : tw_St} (h : fX8_lay σ a x1 x2 x3 x4 x5 = some q) : tw_M l G yX8_lay cX8_lay 7 none rmX8_lay 0 0 σ [.ref a, .int x1, .int x2, .int x3, .int x4, .int x5] none q := by
  unfold fX8_lay at h
  obtain ⟨_, -, h⟩ := tw_bd h
  refine tw_M.of (by decide +kernel) (Nat.le_of_ble_eq_true rfl) (fun p e s m args below meth c hnm hO => ?_)
  have hO : tw_O p s m args meth c cX8_lay RX8 7 none G := hO
  refine tw_iconst (v := 5) hO dX8_lay_0 (by decide) ?_
  refine tw_aload_n 0 hO dX8_lay_1 rfl rfl ?_
  obtain ⟨v2, e2, h⟩ := tw_bd h
  refine tw_getI hO dX8_lay_2 (t := 8) rfl 8 (by decide) rfl tw_w603 rfl e2 ?_
  refine tw_imul hO dX8_lay_5 ?_
  refine tw_istore (lv' := [(6, .int (5 * v2)), (0, .ref a), (1, .int x1), (2, .int x2), (3, .int x3), (4, .int x4), (5, .int x5)]) hO dX8_lay_6 (by decide) rfl ?_
  refine tw_aload_n 1 hO dX8_lay_8 rfl rfl ?_
  obtain ⟨v9, e9, h⟩ := tw_bd h
  refine tw_getP hO dX8_lay_9 (t := 8) rfl 7 (by decide) rfl tw_w602 rfl e9 ?_
  refine tw_iload 0 hO dX8_lay_12 rfl ?_
  refine tw_iload_n 2 hO dX8_lay_14 rfl rfl ?_
  obtain ⟨σ15, e15, h⟩ := tw_bd h
  refine tw_iast hO dX8_lay_15 e15 ?_
  refine tw_aload_n 1 hO dX8_lay_16 rfl rfl ?_
  obtain ⟨v17, e17, h⟩ := tw_bd h
  refine tw_getP hO dX8_lay_17 (t := 8) rfl 7 (by decide) rfl tw_w602 rfl e17 ?_
  refine tw_iload 0 hO dX8_lay_20 rfl ?_
  refine tw_iconst (v := 1) hO dX8_lay_22 (by decide) ?_
  refine tw_iadd hO dX8_lay_23 ?_
  refine tw_iload_n 3 hO dX8_lay_24 rfl rfl ?_
  obtain ⟨σ25, e25, h⟩ := tw_bd h
  refine tw_iast hO dX8_lay_25 e25 ?_
  refine tw_aload_n 1 hO dX8_lay_26 rfl rfl ?_
  obtain ⟨v27, e27, h⟩ := tw_bd h
  refine tw_getP hO dX8_lay_27 (t := 8) rfl 7 (by decide) rfl tw_w602 rfl e27 ?_
  refine tw_iload 0 hO dX8_lay_30 rfl ?_
  refine tw_iconst (v := 2) hO dX8_lay_32 (by decide) ?_
  refine tw_iadd hO dX8_lay_33 ?_
  refine tw_iload_n 4 hO dX8_lay_34 rfl rfl ?_
  obtain ⟨σ35, e35, h⟩ := tw_bd h
  refine tw_iast hO dX8_lay_35 e35 ?_
  refine tw_aload_n 1 hO dX8_lay_36 rfl rfl ?_
  obtain ⟨v37, e37, h⟩ := tw_bd h
  refine tw_getP hO dX8_lay_37 (t := 8) rfl 7 (by decide) rfl tw_w602 rfl e37 ?_
  refine tw_iload 0 hO dX8_lay_40 rfl ?_
  refine tw_iconst (v := 3) hO dX8_lay_42 (by decide) ?_
  refine tw_iadd hO dX8_lay_43 ?_
  refine tw_iload 5 hO dX8_lay_44 rfl ?_
  obtain ⟨σ46, e46, h⟩ := tw_bd h
  refine tw_iast hO dX8_lay_46 e46 ?_
  refine tw_aload_n 1 hO dX8_lay_47 rfl rfl ?_
  obtain ⟨v48, e48, h⟩ := tw_bd h
  refine tw_getP hO dX8_lay_48 (t := 8) rfl 7 (by decide) rfl tw_w602 rfl e48 ?_
  refine tw_iload 0 hO dX8_lay_51 rfl ?_
  refine tw_iconst (v := 4) hO dX8_lay_53 (by decide) ?_
  refine tw_iadd hO dX8_lay_54 ?_
  refine tw_iload 6 hO dX8_lay_55 rfl ?_
  obtain ⟨σ57, e57, h⟩ := tw_bd h
  refine tw_iast hO dX8_lay_57 e57 ?_
  refine tw_aload_n 1 hO dX8_lay_58 rfl rfl ?_
  refine tw_dup hO dX8_lay_59 rfl ?_
  obtain ⟨v60, e60, h⟩ := tw_bd h
  refine tw_getI hO dX8_lay_60 (t := 8) rfl 8 (by decide) rfl tw_w603 rfl e60 ?_
  refine tw_iconst (v := 1) hO dX8_lay_63 (by decide) ?_
  refine tw_iadd hO dX8_lay_64 ?_
  obtain ⟨σ65, e65, h⟩ := tw_bd h
  refine tw_putI hO dX8_lay_65 (t := 8) rfl 8 (by decide) rfl tw_w603 rfl rfl ⟨rfl, rfl⟩ e65 ?_
  exact tw_vret hO dX8_lay_68 h
theorem cfX8_readValue : tw_CF yX8_readValue cX8_readValue 6 none 1 := ⟨tw_w730, tw_w56, by decide +kernel, by decide +kernel, by decide +kernel⟩
theorem kX8_readValue {σ : tw_St} {a : Nat} {x1 : Int32} {q : tw_St} (h : fX8_readValue σ a x1 = some q) : tw_is σ 8 a = some () := by
  unfold fX8_readValue at h
  obtain ⟨_, e1, -⟩ := tw_bd h
  exact e1
set_option maxRecDepth 100000 in
set_option maxHeartbeats 4000000 in
theorem wX8_readValue_b172 (hO : tw_O p s m args meth c cX8_readValue RX8 6 none G) {σ : tw_St} {a0 : Nat} {x1 : Int32} {x2 : Int32} {x4 : Int32} {z0 : Int32} {q : tw_St} (h : fX8_readValue_b172 σ a0 x1 x2 x4 z0 = some q) : tw_X p l e rmX8_readValue s m args below meth c 6 G σ 0 0 (tw_Q below args s G 0 0 none q) 172 [(0, .ref a0), (1, .int x1), (2, .int x2), (4, .int x4)] [.int z0] := by
  unfold fX8_readValue_b172 at h
  refine tw_istore (lv' := [(5, .int z0), (0, .ref a0), (1, .int x1), (2, .int x2), (4, .int x4)]) hO dX8_readValue_172 (by decide) rfl ?_
  refine tw_aload_n 1 hO dX8_readValue_174 rfl rfl ?_
  refine tw_iload 4 hO dX8_readValue_175 rfl ?_
  refine tw_iload_n 2 hO dX8_readValue_177 rfl rfl ?_
  refine tw_iload_n 3 hO dX8_readValue_178 rfl rfl ?_
  refine tw_iload 0 hO dX8_readValue_179 rfl ?_
  refine tw_bipush (v := (-6)) hO dX8_readValue_181 (by decide) ?_
  obtain ⟨σ183, e183, h⟩ := tw_bd h
  refine tw_cVv hO (mX8_lay l G e183) cfX8_lay (t := 8) rfl (kX8_lay e183) tw_w719 tw_w721 tw_w27 rfl rfl rfl rfl ⟨(Nat.le_of_ble_eq_true rfl), (Nat.le_of_ble_eq_true rfl)⟩ (Nat.le_of_ble_eq_true rfl) ⟨(Nat.le_of_ble_eq_true rfl), (Nat.le_of_ble_eq_true rfl)⟩ dX8_readValue_183 ?_
  exact tw_vret hO dX8_readValue_186 h
set_option maxRecDepth 100000 in
set_option maxHeartbeats 4000000 in
theorem wX8_readValue_b153 (hO : tw_O p s m args meth c cX8_readValue RX8 6 none G) {σ : tw_St} {a0 : Nat} {x1 : Int32} {x2 : Int32} {x4 : Int32} {z0 : Int32} {z1 : Int32} {z2 : Nat} {q : tw_St} (h : fX8_readValue_b153 σ a0 x1 x2 x4 z0 z1 z2 = some q) : tw_X p l e rmX8_readValue s m args below meth c 6 G σ 0 0 (tw_Q below args s G 0 0 none q) 153 [(0, .ref a0), (1, .int x1), (2, .int x2), (4, .int x4)] [.int z0, .int z1, .ref z2] := by
  unfold fX8_readValue_b153 at h
  refine tw_iadd hO dX8_readValue_153 ?_
  obtain ⟨σ154, e154, h⟩ := tw_bd h
  refine tw_putI hO dX8_readValue_154 (t := 8) rfl 9 (by decide) rfl tw_w604 rfl rfl ⟨rfl, rfl⟩ e154 ?_
  refine tw_aload_n 0 hO dX8_readValue_157 rfl rfl ?_
  obtain ⟨v158, e158, h⟩ := tw_bd h
  refine tw_getI hO dX8_readValue_158 (t := 8) rfl 10 (by decide) rfl tw_w605 rfl e158 ?_
  refine tw_if_eq (tgt := 168) hO dX8_readValue_161 (by decide) (fun cc => ?_) (fun cc => ?_)
  · replace h := tw_ifp cc h
    refine tw_aload_n 0 hO dX8_readValue_168 rfl rfl ?_
    obtain ⟨q169, e169, h⟩ := tw_bd h
    refine tw_cVi hO (mX8_register l G e169) cfX8_register (t := 8) rfl (kX8_register e169) tw_w711 tw_w713 tw_w25 rfl rfl rfl rfl ⟨(Nat.le_of_ble_eq_true rfl), (Nat.le_of_ble_eq_true rfl)⟩ (Nat.le_of_ble_eq_true rfl) ⟨(Nat.le_of_ble_eq_true rfl), (Nat.le_of_ble_eq_true rfl)⟩ dX8_readValue_169 ?_
    exact wX8_readValue_b172 hO h
  · replace h := tw_ifn cc h
    refine tw_iconst (v := 0) hO dX8_readValue_164 (by decide) ?_
    refine tw_goto (tgt := 172) hO dX8_readValue_165 (by decide) ?_
    exact wX8_readValue_b172 hO h
set_option maxRecDepth 100000 in
set_option maxHeartbeats 4000000 in
theorem wX8_readValue_b133 (hO : tw_O p s m args meth c cX8_readValue RX8 6 none G) {σ : tw_St} {a0 : Nat} {x1 : Int32} {x2 : Int32} {x4 : Int32} {z0 : Int32} {z1 : Nat} {q : tw_St} (h : fX8_readValue_b133 σ a0 x1 x2 x4 z0 z1 = some q) : tw_X p l e rmX8_readValue s m args below meth c 6 G σ 0 0 (tw_Q below args s G 0 0 none q) 133 [(0, .ref a0), (1, .int x1), (2, .int x2), (4, .int x4)] [.int z0, .ref z1] := by
  unfold fX8_readValue_b133 at h
  obtain ⟨_, hz133, h⟩ := tw_bd h
  obtain ⟨σ133, e133, h⟩ := tw_bd h
  refine tw_putI hO dX8_readValue_133 (t := 8) rfl 10 (by decide) rfl tw_w605 rfl rfl (tw_bz_sp hz133).2 e133 ?_
  refine tw_aload_n 0 hO dX8_readValue_136 rfl rfl ?_
  refine tw_dup hO dX8_readValue_137 rfl ?_
  obtain ⟨v138, e138, h⟩ := tw_bd h
  refine tw_getI hO dX8_readValue_138 (t := 8) rfl 9 (by decide) rfl tw_w604 rfl e138 ?_
  refine tw_aload_n 0 hO dX8_readValue_141 rfl rfl ?_
  obtain ⟨v142, e142, h⟩ := tw_bd h
  refine tw_getI hO dX8_readValue_142 (t := 8) rfl 10 (by decide) rfl tw_w605 rfl e142 ?_
  refine tw_if_eq (tgt := 152) hO dX8_readValue_145 (by decide) (fun cc => ?_) (fun cc => ?_)
  · replace h := tw_ifp cc h
    refine tw_iconst (v := 1) hO dX8_readValue_152 (by decide) ?_
    exact wX8_readValue_b153 hO h
  · replace h := tw_ifn cc h
    refine tw_iconst (v := 0) hO dX8_readValue_148 (by decide) ?_
    refine tw_goto (tgt := 153) hO dX8_readValue_149 (by decide) ?_
    exact wX8_readValue_b153 hO h
set_option maxRecDepth 100000 in
set_option maxHeartbeats 4000000 in
theorem wX8_readValue_b128 (hO : tw_O p s m args meth c cX8_readValue RX8 6 none G) {σ : tw_St} {a0 : Nat} {x1 : Int32} {x2 : Int32} {x4 : Int32} {z0 : Nat} {q : tw_St} (h : fX8_readValue_b128 σ a0 x1 x2 x4 z0 = some q) : tw_X p l e rmX8_readValue s m args below meth c 6 G σ 0 0 (tw_Q below args s G 0 0 none q) 128 [(0, .ref a0), (1, .int x1), (2, .int x2), (4, .int x4)] [.ref z0] := by
  unfold fX8_readValue_b128 at h
  refine tw_iconst (v := 1) hO dX8_readValue_128 (by decide) ?_
  refine tw_goto (tgt := 133) hO dX8_readValue_129 (by decide) ?_
  exact wX8_readValue_b133 hO h
set_option maxRecDepth 100000 in
set_option maxHeartbeats 4000000 in
theorem wX8_readValue_b113 (hO : tw_O p s m args meth c cX8_readValue RX8 6 none G) {σ : tw_St} {a0 : Nat} {x1 : Int32} {x2 : Int32} {z0 : Int32} {q : tw_St} (h : fX8_readValue_b113 σ a0 x1 x2 z0 = some q) : tw_X p l e rmX8_readValue s m args below meth c 6 G σ 0 0 (tw_Q below args s G 0 0 none q) 113 [(0, .ref a0), (1, .int x1), (2, .int x2)] [.int z0] := by
  unfold fX8_readValue_b113 at h
  refine tw_istore (lv' := [(4, .int z0), (0, .ref a0), (1, .int x1), (2, .int x2)]) hO dX8_readValue_113 (by decide) rfl ?_
  refine tw_aload_n 1 hO dX8_readValue_115 rfl rfl ?_
  refine tw_aload_n 1 hO dX8_readValue_116 rfl rfl ?_
  obtain ⟨v117, e117, h⟩ := tw_bd h
  refine tw_getI hO dX8_readValue_117 (t := 8) rfl 10 (by decide) rfl tw_w605 rfl e117 ?_
  refine tw_if_ne (tgt := 128) hO dX8_readValue_120 (by decide) (fun cc => ?_) (fun cc => ?_)
  · replace h := tw_ifn cc h
    refine tw_sub [1, 2, 3, 0] rfl ?_
    exact wX8_readValue_b128 hO h
  · replace h := tw_ifp cc h
    refine tw_iload 0 hO dX8_readValue_123 rfl ?_
    refine tw_if_ge (tgt := 132) hO dX8_readValue_125 (by decide) (fun cc => ?_) (fun cc => ?_)
    · replace h := tw_ifp cc h
      refine tw_iconst (v := 0) hO dX8_readValue_132 (by decide) ?_
      refine tw_sub [1, 2, 3, 0] rfl ?_
      exact wX8_readValue_b133 hO h
    · replace h := tw_ifn cc h
      refine tw_sub [1, 2, 3, 0] rfl ?_
      exact wX8_readValue_b128 hO h
set_option maxRecDepth 100000 in
set_option maxHeartbeats 4000000 in
theorem mX8_readValue (l : Launch) (G : tw_G) {σ : tw_St} {a : Nat} {x1 : Int32} {q : tw_St} (h : fX8_readValue σ a x1 = some q) : tw_M l G yX8_readValue cX8_readValue 6 none rmX8_readValue 0 0 σ [.ref a, .int x1] none q := by
  unfold fX8_readValue at h
  obtain ⟨_, -, h⟩ := tw_bd h
  refine tw_M.of (by decide +kernel) (Nat.le_of_ble_eq_true rfl) (fun p e s m args below meth c hnm hO => ?_)
  have hO : tw_O p s m args meth c cX8_readValue RX8 6 none G := hO
  refine tw_aload_n 0 hO dX8_readValue_0 rfl rfl ?_
  obtain ⟨v1, e1, h⟩ := tw_bd h
  refine tw_cVi hO (mX8_sign l G e1) cfX8_sign (t := 8) rfl (kX8_sign e1) tw_w707 tw_w709 tw_w24 rfl rfl rfl rfl ⟨(Nat.le_of_ble_eq_true rfl), (Nat.le_of_ble_eq_true rfl)⟩ (Nat.le_of_ble_eq_true rfl) ⟨(Nat.le_of_ble_eq_true rfl), (Nat.le_of_ble_eq_true rfl)⟩ dX8_readValue_1 ?_
  refine tw_bipush (v := 48) hO dX8_readValue_4 (by decide) ?_
  refine tw_bipush (v := 57) hO dX8_readValue_6 (by decide) ?_
  obtain ⟨v8, e8, h⟩ := tw_bd h
  refine tw_cSi hO (mX8_in l G e8) cfX8_in tw_w672 tw_w673 rfl rfl rfl rfl ⟨(Nat.le_of_ble_eq_true rfl), (Nat.le_of_ble_eq_true rfl)⟩ (Nat.le_of_ble_eq_true rfl) ⟨(Nat.le_of_ble_eq_true rfl), (Nat.le_of_ble_eq_true rfl)⟩ dX8_readValue_8 ?_
  refine tw_if_eq (tgt := 29) hO dX8_readValue_11 (by decide) (fun cc => ?_) (fun cc => ?_)
  · replace h := tw_ifp cc h
    refine tw_aload_n 0 hO dX8_readValue_29 rfl rfl ?_
    obtain ⟨v30, e30, h⟩ := tw_bd h
    refine tw_cVi hO (mX8_sign l G e30) cfX8_sign (t := 8) rfl (kX8_sign e30) tw_w707 tw_w709 tw_w24 rfl rfl rfl rfl ⟨(Nat.le_of_ble_eq_true rfl), (Nat.le_of_ble_eq_true rfl)⟩ (Nat.le_of_ble_eq_true rfl) ⟨(Nat.le_of_ble_eq_true rfl), (Nat.le_of_ble_eq_true rfl)⟩ dX8_readValue_30 ?_
    refine tw_bipush (v := 91) hO dX8_readValue_33 (by decide) ?_
    refine tw_icmp_ne (tgt := 71) hO dX8_readValue_35 (by decide) (fun cc => ?_) (fun cc => ?_)
    · replace h := tw_ifn cc h
      refine tw_aload_n 0 hO dX8_readValue_71 rfl rfl ?_
      obtain ⟨q72, e72, h⟩ := tw_bd h
      refine tw_cVi hO (mX8_register l G e72) cfX8_register (t := 8) rfl (kX8_register e72) tw_w711 tw_w713 tw_w25 rfl rfl rfl rfl ⟨(Nat.le_of_ble_eq_true rfl), (Nat.le_of_ble_eq_true rfl)⟩ (Nat.le_of_ble_eq_true rfl) ⟨(Nat.le_of_ble_eq_true rfl), (Nat.le_of_ble_eq_true rfl)⟩ dX8_readValue_72 ?_
      refine tw_istore_n (lv' := [(2, .int q72.1), (0, .ref a), (1, .int x1)]) hO dX8_readValue_75 rfl (by decide) rfl ?_
      refine tw_aload_n 1 hO dX8_readValue_76 rfl rfl ?_
      obtain ⟨v77, e77, h⟩ := tw_bd h
      refine tw_cVi hO (mX8_sign l G e77) cfX8_sign (t := 8) rfl (kX8_sign e77) tw_w707 tw_w709 tw_w24 rfl rfl rfl rfl ⟨(Nat.le_of_ble_eq_true rfl), (Nat.le_of_ble_eq_true rfl)⟩ (Nat.le_of_ble_eq_true rfl) ⟨(Nat.le_of_ble_eq_true rfl), (Nat.le_of_ble_eq_true rfl)⟩ dX8_readValue_77 ?_
      refine tw_istore_n (lv' := [(3, .int v77), (2, .int q72.1), (0, .ref a), (1, .int x1)]) hO dX8_readValue_80 rfl (by decide) rfl ?_
      refine tw_iload_n 0 hO dX8_readValue_81 rfl rfl ?_
      refine tw_bipush (v := 43) hO dX8_readValue_82 (by decide) ?_
      refine tw_icmp_ne (tgt := 91) hO dX8_readValue_84 (by decide) (fun cc => ?_) (fun cc => ?_)
      · replace h := tw_ifn cc h
        refine tw_iload_n 0 hO dX8_readValue_91 rfl rfl ?_
        refine tw_bipush (v := 45) hO dX8_readValue_92 (by decide) ?_
        refine tw_icmp_ne (tgt := 101) hO dX8_readValue_94 (by decide) (fun cc => ?_) (fun cc => ?_)
        · replace h := tw_ifn cc h
          refine tw_iload_n 0 hO dX8_readValue_101 rfl rfl ?_
          refine tw_bipush (v := 42) hO dX8_readValue_102 (by decide) ?_
          refine tw_icmp_ne (tgt := 111) hO dX8_readValue_104 (by decide) (fun cc => ?_) (fun cc => ?_)
          · replace h := tw_ifn cc h
            refine tw_bipush (v := (-6)) hO dX8_readValue_111 (by decide) ?_
            refine tw_sub [2, 3, 1] rfl ?_
            exact wX8_readValue_b113 hO h
          · replace h := tw_ifp cc h
            refine tw_iconst (v := 3) hO dX8_readValue_107 (by decide) ?_
            refine tw_goto (tgt := 113) hO dX8_readValue_108 (by decide) ?_
            refine tw_sub [2, 3, 1] rfl ?_
            exact wX8_readValue_b113 hO h
        · replace h := tw_ifp cc h
          refine tw_iconst (v := 2) hO dX8_readValue_97 (by decide) ?_
          refine tw_goto (tgt := 113) hO dX8_readValue_98 (by decide) ?_
          refine tw_sub [2, 3, 1] rfl ?_
          exact wX8_readValue_b113 hO h
      · replace h := tw_ifp cc h
        refine tw_iconst (v := 1) hO dX8_readValue_87 (by decide) ?_
        refine tw_goto (tgt := 113) hO dX8_readValue_88 (by decide) ?_
        refine tw_sub [2, 3, 1] rfl ?_
        exact wX8_readValue_b113 hO h
    · replace h := tw_ifp cc h
      refine tw_aload_n 0 hO dX8_readValue_38 rfl rfl ?_
      refine tw_dup hO dX8_readValue_39 rfl ?_
      obtain ⟨v40, e40, h⟩ := tw_bd h
      refine tw_getI hO dX8_readValue_40 (t := 8) rfl 9 (by decide) rfl tw_w604 rfl e40 ?_
      refine tw_iconst (v := 1) hO dX8_readValue_43 (by decide) ?_
      refine tw_iadd hO dX8_readValue_44 ?_
      obtain ⟨σ45, e45, h⟩ := tw_bd h
      refine tw_putI hO dX8_readValue_45 (t := 8) rfl 9 (by decide) rfl tw_w604 rfl rfl ⟨rfl, rfl⟩ e45 ?_
      refine tw_aload_n 0 hO dX8_readValue_48 rfl rfl ?_
      obtain ⟨q49, e49, h⟩ := tw_bd h
      refine tw_cVi hO (mX8_register l G e49) cfX8_register (t := 8) rfl (kX8_register e49) tw_w711 tw_w713 tw_w25 rfl rfl rfl rfl ⟨(Nat.le_of_ble_eq_true rfl), (Nat.le_of_ble_eq_true rfl)⟩ (Nat.le_of_ble_eq_true rfl) ⟨(Nat.le_of_ble_eq_true rfl), (Nat.le_of_ble_eq_true rfl)⟩ dX8_readValue_49 ?_
      refine tw_istore_n (lv' := [(2, .int q49.1), (0, .ref a), (1, .int x1)]) hO dX8_readValue_52 rfl (by decide) rfl ?_
      refine tw_aload_n 1 hO dX8_readValue_53 rfl rfl ?_
      refine tw_bipush (v := 93) hO dX8_readValue_54 (by decide) ?_
      obtain ⟨σ56, e56, h⟩ := tw_bd h
      refine tw_cVv hO (mX8_between l G e56) cfX8_between (t := 8) rfl (kX8_between e56) tw_w715 tw_w717 tw_w26 rfl rfl rfl rfl ⟨(Nat.le_of_ble_eq_true rfl), (Nat.le_of_ble_eq_true rfl)⟩ (Nat.le_of_ble_eq_true rfl) ⟨(Nat.le_of_ble_eq_true rfl), (Nat.le_of_ble_eq_true rfl)⟩ dX8_readValue_56 ?_
      refine tw_aload_n 1 hO dX8_readValue_59 rfl rfl ?_
      refine tw_iconst (v := 4) hO dX8_readValue_60 (by decide) ?_
      refine tw_iload_n 2 hO dX8_readValue_61 rfl rfl ?_
      refine tw_iload_n 0 hO dX8_readValue_62 rfl rfl ?_
      refine tw_bipush (v := (-6)) hO dX8_readValue_63 (by decide) ?_
      refine tw_bipush (v := (-6)) hO dX8_readValue_65 (by decide) ?_
      obtain ⟨σ67, e67, h⟩ := tw_bd h
      refine tw_cVv hO (mX8_lay l G e67) cfX8_lay (t := 8) rfl (kX8_lay e67) tw_w719 tw_w721 tw_w27 rfl rfl rfl rfl ⟨(Nat.le_of_ble_eq_true rfl), (Nat.le_of_ble_eq_true rfl)⟩ (Nat.le_of_ble_eq_true rfl) ⟨(Nat.le_of_ble_eq_true rfl), (Nat.le_of_ble_eq_true rfl)⟩ dX8_readValue_67 ?_
      exact tw_vret hO dX8_readValue_70 h
  · replace h := tw_ifn cc h
    refine tw_aload_n 0 hO dX8_readValue_14 rfl rfl ?_
    refine tw_iconst (v := 0) hO dX8_readValue_15 (by decide) ?_
    refine tw_iload_n 1 hO dX8_readValue_16 rfl rfl ?_
    refine tw_bipush (v := (-6)) hO dX8_readValue_17 (by decide) ?_
    refine tw_bipush (v := (-6)) hO dX8_readValue_19 (by decide) ?_
    refine tw_aload_n 0 hO dX8_readValue_21 rfl rfl ?_
    obtain ⟨q22, e22, h⟩ := tw_bd h
    refine tw_cVi hO (mX8_number l G e22) cfX8_number (t := 8) rfl (kX8_number e22) tw_w723 tw_w725 tw_w28 rfl rfl rfl rfl ⟨(Nat.le_of_ble_eq_true rfl), (Nat.le_of_ble_eq_true rfl)⟩ (Nat.le_of_ble_eq_true rfl) ⟨(Nat.le_of_ble_eq_true rfl), (Nat.le_of_ble_eq_true rfl)⟩ dX8_readValue_22 ?_
    obtain ⟨σ25, e25, h⟩ := tw_bd h
    refine tw_cVv hO (mX8_lay l G e25) cfX8_lay (t := 8) rfl (kX8_lay e25) tw_w719 tw_w721 tw_w27 rfl rfl rfl rfl ⟨(Nat.le_of_ble_eq_true rfl), (Nat.le_of_ble_eq_true rfl)⟩ (Nat.le_of_ble_eq_true rfl) ⟨(Nat.le_of_ble_eq_true rfl), (Nat.le_of_ble_eq_true rfl)⟩ dX8_readValue_25 ?_
    exact tw_vret hO dX8_readValue_28 h
theorem cfX8_readOne : tw_CF yX8_readOne cX8_readOne 3 none 0 := ⟨tw_w706, tw_w56, by decide +kernel, by decide +kernel, by decide +kernel⟩
theorem kX8_readOne {σ : tw_St} {a : Nat} {q : tw_St} (h : fX8_readOne σ a = some q) : tw_is σ 8 a = some () := by
  unfold fX8_readOne at h
  obtain ⟨_, e1, -⟩ := tw_bd h
  exact e1
set_option maxRecDepth 100000 in
set_option maxHeartbeats 4000000 in
theorem wX8_readOne_b51 (hO : tw_O p s m args meth c cX8_readOne RX8 3 none G) {σ : tw_St} {a0 : Nat} {x1 : Int32} {z0 : Int32} {q : tw_St} (h : fX8_readOne_b51 σ a0 x1 z0 = some q) : tw_X p l e rmX8_readOne s m args below meth c 3 G σ 0 0 (tw_Q below args s G 0 0 none q) 51 [(0, .ref a0), (1, .int x1)] [.int z0] := by
  unfold fX8_readOne_b51 at h
  refine tw_istore_n (lv' := [(2, .int z0), (0, .ref a0), (1, .int x1)]) hO dX8_readOne_51 rfl (by decide) rfl ?_
  refine tw_aload_n 1 hO dX8_readOne_52 rfl rfl ?_
  refine tw_iconst (v := 5) hO dX8_readOne_53 (by decide) ?_
  refine tw_iload_n 2 hO dX8_readOne_54 rfl rfl ?_
  refine tw_iload_n 0 hO dX8_readOne_55 rfl rfl ?_
  refine tw_bipush (v := (-6)) hO dX8_readOne_56 (by decide) ?_
  refine tw_bipush (v := (-6)) hO dX8_readOne_58 (by decide) ?_
  obtain ⟨σ60, e60, h⟩ := tw_bd h
  refine tw_cVv hO (mX8_lay l G e60) cfX8_lay (t := 8) rfl (kX8_lay e60) tw_w719 tw_w721 tw_w27 rfl rfl rfl rfl ⟨(Nat.le_of_ble_eq_true rfl), (Nat.le_of_ble_eq_true rfl)⟩ (Nat.le_of_ble_eq_true rfl) ⟨(Nat.le_of_ble_eq_true rfl), (Nat.le_of_ble_eq_true rfl)⟩ dX8_readOne_60 ?_
  exact tw_vret hO dX8_readOne_63 h
set_option maxRecDepth 100000 in
set_option maxHeartbeats 4000000 in
theorem mX8_readOne (l : Launch) (G : tw_G) {σ : tw_St} {a : Nat} {q : tw_St} (h : fX8_readOne σ a = some q) : tw_M l G yX8_readOne cX8_readOne 3 none rmX8_readOne 0 0 σ [.ref a] none q := by
  unfold fX8_readOne at h
  obtain ⟨_, -, h⟩ := tw_bd h
  refine tw_M.of (by decide +kernel) (Nat.le_of_ble_eq_true rfl) (fun p e s m args below meth c hnm hO => ?_)
  have hO : tw_O p s m args meth c cX8_readOne RX8 3 none G := hO
  refine tw_aload_n 0 hO dX8_readOne_0 rfl rfl ?_
  obtain ⟨v1, e1, h⟩ := tw_bd h
  refine tw_cVi hO (mX8_sign l G e1) cfX8_sign (t := 8) rfl (kX8_sign e1) tw_w707 tw_w709 tw_w24 rfl rfl rfl rfl ⟨(Nat.le_of_ble_eq_true rfl), (Nat.le_of_ble_eq_true rfl)⟩ (Nat.le_of_ble_eq_true rfl) ⟨(Nat.le_of_ble_eq_true rfl), (Nat.le_of_ble_eq_true rfl)⟩ dX8_readOne_1 ?_
  refine tw_bipush (v := 91) hO dX8_readOne_4 (by decide) ?_
  refine tw_icmp_ne (tgt := 64) hO dX8_readOne_6 (by decide) (fun cc => ?_) (fun cc => ?_)
  · replace h := tw_ifn cc h
    refine tw_aload_n 0 hO dX8_readOne_64 rfl rfl ?_
    obtain ⟨q65, e65, h⟩ := tw_bd h
    refine tw_cVi hO (mX8_register l G e65) cfX8_register (t := 8) rfl (kX8_register e65) tw_w711 tw_w713 tw_w25 rfl rfl rfl rfl ⟨(Nat.le_of_ble_eq_true rfl), (Nat.le_of_ble_eq_true rfl)⟩ (Nat.le_of_ble_eq_true rfl) ⟨(Nat.le_of_ble_eq_true rfl), (Nat.le_of_ble_eq_true rfl)⟩ dX8_readOne_65 ?_
    refine tw_istore_n (lv' := [(1, .int q65.1), (0, .ref a)]) hO dX8_readOne_68 rfl (by decide) rfl ?_
    refine tw_aload_n 1 hO dX8_readOne_69 rfl rfl ?_
    obtain ⟨v70, e70, h⟩ := tw_bd h
    refine tw_getI hO dX8_readOne_70 (t := 8) rfl 10 (by decide) rfl tw_w605 rfl e70 ?_
    refine tw_if_eq (tgt := 77) hO dX8_readOne_73 (by decide) (fun cc => ?_) (fun cc => ?_)
    · replace h := tw_ifp cc h
      refine tw_aload_n 1 hO dX8_readOne_77 rfl rfl ?_
      obtain ⟨v78, e78, h⟩ := tw_bd h
      refine tw_cVi hO (mX8_sign l G e78) cfX8_sign (t := 8) rfl (kX8_sign e78) tw_w707 tw_w709 tw_w24 rfl rfl rfl rfl ⟨(Nat.le_of_ble_eq_true rfl), (Nat.le_of_ble_eq_true rfl)⟩ (Nat.le_of_ble_eq_true rfl) ⟨(Nat.le_of_ble_eq_true rfl), (Nat.le_of_ble_eq_true rfl)⟩ dX8_readOne_78 ?_
      refine tw_bipush (v := 63) hO dX8_readOne_81 (by decide) ?_
      refine tw_icmp_ne (tgt := 112) hO dX8_readOne_83 (by decide) (fun cc => ?_) (fun cc => ?_)
      · replace h := tw_ifn cc h
        refine tw_aload_n 1 hO dX8_readOne_112 rfl rfl ?_
        refine tw_bipush (v := 61) hO dX8_readOne_113 (by decide) ?_
        obtain ⟨σ115, e115, h⟩ := tw_bd h
        refine tw_cVv hO (mX8_between l G e115) cfX8_between (t := 8) rfl (kX8_between e115) tw_w715 tw_w717 tw_w26 rfl rfl rfl rfl ⟨(Nat.le_of_ble_eq_true rfl), (Nat.le_of_ble_eq_true rfl)⟩ (Nat.le_of_ble_eq_true rfl) ⟨(Nat.le_of_ble_eq_true rfl), (Nat.le_of_ble_eq_true rfl)⟩ dX8_readOne_115 ?_
        refine tw_aload_n 1 hO dX8_readOne_118 rfl rfl ?_
        obtain ⟨v119, e119, h⟩ := tw_bd h
        refine tw_getI hO dX8_readOne_119 (t := 8) rfl 10 (by decide) rfl tw_w605 rfl e119 ?_
        refine tw_if_ne (tgt := 130) hO dX8_readOne_122 (by decide) (fun cc => ?_) (fun cc => ?_)
        · replace h := tw_ifn cc h
          exact tw_vret hO dX8_readOne_130 h
        · replace h := tw_ifp cc h
          refine tw_aload_n 1 hO dX8_readOne_125 rfl rfl ?_
          refine tw_iload_n 0 hO dX8_readOne_126 rfl rfl ?_
          obtain ⟨σ127, e127, h⟩ := tw_bd h
          refine tw_cVv hO (mX8_readValue l G e127) cfX8_readValue (t := 8) rfl (kX8_readValue e127) tw_w727 tw_w729 tw_w29 rfl rfl rfl rfl ⟨(Nat.le_of_ble_eq_true rfl), (Nat.le_of_ble_eq_true rfl)⟩ (Nat.le_of_ble_eq_true rfl) ⟨(Nat.le_of_ble_eq_true rfl), (Nat.le_of_ble_eq_true rfl)⟩ dX8_readOne_127 ?_
          exact tw_vret hO dX8_readOne_130 h
      · replace h := tw_ifp cc h
        refine tw_aload_n 1 hO dX8_readOne_86 rfl rfl ?_
        refine tw_dup hO dX8_readOne_87 rfl ?_
        obtain ⟨v88, e88, h⟩ := tw_bd h
        refine tw_getI hO dX8_readOne_88 (t := 8) rfl 9 (by decide) rfl tw_w604 rfl e88 ?_
        refine tw_iconst (v := 1) hO dX8_readOne_91 (by decide) ?_
        refine tw_iadd hO dX8_readOne_92 ?_
        obtain ⟨σ93, e93, h⟩ := tw_bd h
        refine tw_putI hO dX8_readOne_93 (t := 8) rfl 9 (by decide) rfl tw_w604 rfl rfl ⟨rfl, rfl⟩ e93 ?_
        refine tw_aload_n 1 hO dX8_readOne_96 rfl rfl ?_
        refine tw_bipush (v := 6) hO dX8_readOne_97 (by decide) ?_
        refine tw_iload_n 0 hO dX8_readOne_99 rfl rfl ?_
        refine tw_bipush (v := (-6)) hO dX8_readOne_100 (by decide) ?_
        refine tw_bipush (v := (-6)) hO dX8_readOne_102 (by decide) ?_
        refine tw_aload_n 1 hO dX8_readOne_104 rfl rfl ?_
        obtain ⟨q105, e105, h⟩ := tw_bd h
        refine tw_cVi hO (mX8_number l G e105) cfX8_number (t := 8) rfl (kX8_number e105) tw_w723 tw_w725 tw_w28 rfl rfl rfl rfl ⟨(Nat.le_of_ble_eq_true rfl), (Nat.le_of_ble_eq_true rfl)⟩ (Nat.le_of_ble_eq_true rfl) ⟨(Nat.le_of_ble_eq_true rfl), (Nat.le_of_ble_eq_true rfl)⟩ dX8_readOne_105 ?_
        obtain ⟨σ108, e108, h⟩ := tw_bd h
        refine tw_cVv hO (mX8_lay l G e108) cfX8_lay (t := 8) rfl (kX8_lay e108) tw_w719 tw_w721 tw_w27 rfl rfl rfl rfl ⟨(Nat.le_of_ble_eq_true rfl), (Nat.le_of_ble_eq_true rfl)⟩ (Nat.le_of_ble_eq_true rfl) ⟨(Nat.le_of_ble_eq_true rfl), (Nat.le_of_ble_eq_true rfl)⟩ dX8_readOne_108 ?_
        exact tw_vret hO dX8_readOne_111 h
    · replace h := tw_ifn cc h
      exact tw_vret hO dX8_readOne_76 h
  · replace h := tw_ifp cc h
    refine tw_aload_n 0 hO dX8_readOne_9 rfl rfl ?_
    refine tw_dup hO dX8_readOne_10 rfl ?_
    obtain ⟨v11, e11, h⟩ := tw_bd h
    refine tw_getI hO dX8_readOne_11 (t := 8) rfl 9 (by decide) rfl tw_w604 rfl e11 ?_
    refine tw_iconst (v := 1) hO dX8_readOne_14 (by decide) ?_
    refine tw_iadd hO dX8_readOne_15 ?_
    obtain ⟨σ16, e16, h⟩ := tw_bd h
    refine tw_putI hO dX8_readOne_16 (t := 8) rfl 9 (by decide) rfl tw_w604 rfl rfl ⟨rfl, rfl⟩ e16 ?_
    refine tw_aload_n 0 hO dX8_readOne_19 rfl rfl ?_
    obtain ⟨q20, e20, h⟩ := tw_bd h
    refine tw_cVi hO (mX8_register l G e20) cfX8_register (t := 8) rfl (kX8_register e20) tw_w711 tw_w713 tw_w25 rfl rfl rfl rfl ⟨(Nat.le_of_ble_eq_true rfl), (Nat.le_of_ble_eq_true rfl)⟩ (Nat.le_of_ble_eq_true rfl) ⟨(Nat.le_of_ble_eq_true rfl), (Nat.le_of_ble_eq_true rfl)⟩ dX8_readOne_20 ?_
    refine tw_istore_n (lv' := [(1, .int q20.1), (0, .ref a)]) hO dX8_readOne_23 rfl (by decide) rfl ?_
    refine tw_aload_n 1 hO dX8_readOne_24 rfl rfl ?_
    refine tw_bipush (v := 93) hO dX8_readOne_25 (by decide) ?_
    obtain ⟨σ27, e27, h⟩ := tw_bd h
    refine tw_cVv hO (mX8_between l G e27) cfX8_between (t := 8) rfl (kX8_between e27) tw_w715 tw_w717 tw_w26 rfl rfl rfl rfl ⟨(Nat.le_of_ble_eq_true rfl), (Nat.le_of_ble_eq_true rfl)⟩ (Nat.le_of_ble_eq_true rfl) ⟨(Nat.le_of_ble_eq_true rfl), (Nat.le_of_ble_eq_true rfl)⟩ dX8_readOne_27 ?_
    refine tw_aload_n 1 hO dX8_readOne_30 rfl rfl ?_
    refine tw_bipush (v := 61) hO dX8_readOne_31 (by decide) ?_
    obtain ⟨σ33, e33, h⟩ := tw_bd h
    refine tw_cVv hO (mX8_between l G e33) cfX8_between (t := 8) rfl (kX8_between e33) tw_w715 tw_w717 tw_w26 rfl rfl rfl rfl ⟨(Nat.le_of_ble_eq_true rfl), (Nat.le_of_ble_eq_true rfl)⟩ (Nat.le_of_ble_eq_true rfl) ⟨(Nat.le_of_ble_eq_true rfl), (Nat.le_of_ble_eq_true rfl)⟩ dX8_readOne_33 ?_
    refine tw_aload_n 1 hO dX8_readOne_36 rfl rfl ?_
    obtain ⟨v37, e37, h⟩ := tw_bd h
    refine tw_getI hO dX8_readOne_37 (t := 8) rfl 10 (by decide) rfl tw_w605 rfl e37 ?_
    refine tw_if_eq (tgt := 47) hO dX8_readOne_40 (by decide) (fun cc => ?_) (fun cc => ?_)
    · replace h := tw_ifp cc h
      refine tw_aload_n 1 hO dX8_readOne_47 rfl rfl ?_
      obtain ⟨q48, e48, h⟩ := tw_bd h
      refine tw_cVi hO (mX8_register l G e48) cfX8_register (t := 8) rfl (kX8_register e48) tw_w711 tw_w713 tw_w25 rfl rfl rfl rfl ⟨(Nat.le_of_ble_eq_true rfl), (Nat.le_of_ble_eq_true rfl)⟩ (Nat.le_of_ble_eq_true rfl) ⟨(Nat.le_of_ble_eq_true rfl), (Nat.le_of_ble_eq_true rfl)⟩ dX8_readOne_48 ?_
      refine tw_sub [1, 0] rfl ?_
      exact wX8_readOne_b51 hO h
    · replace h := tw_ifn cc h
      refine tw_iconst (v := 0) hO dX8_readOne_43 (by decide) ?_
      refine tw_goto (tgt := 51) hO dX8_readOne_44 (by decide) ?_
      refine tw_sub [1, 0] rfl ?_
      exact wX8_readOne_b51 hO h
theorem cfX8_faultOf : tw_CF yX8_faultOf cX8_faultOf 1 (some .int) 0 := ⟨tw_w702, tw_w56, by decide +kernel, by decide +kernel, by decide +kernel⟩
theorem kX8_faultOf {σ : tw_St} {a : Nat} {q : Int32 × tw_St} (h : fX8_faultOf σ a = some q) : tw_is σ 8 a = some () := by
  unfold fX8_faultOf at h
  obtain ⟨_, e1, -⟩ := tw_bd h
  exact e1
set_option maxRecDepth 100000 in
set_option maxHeartbeats 4000000 in
theorem wX8_faultOf_b57 (hO : tw_O p s m args meth c cX8_faultOf RX8 1 (some .int) G) {σ : tw_St} {a0 : Nat} {q : Int32 × tw_St} (h : fX8_faultOf_b57 σ a0 = some q) : tw_X p l e rmX8_faultOf s m args below meth c 1 G σ 0 0 (tw_Q below args s G 0 0 (some (.int q.1)) q.2) 57 [(0, .ref a0)] [] := by
  unfold fX8_faultOf_b57 at h
  refine tw_aload_n 0 hO dX8_faultOf_57 rfl rfl ?_
  obtain ⟨v58, e58, h⟩ := tw_bd h
  refine tw_getI hO dX8_faultOf_58 (t := 8) rfl 10 (by decide) rfl tw_w605 rfl e58 ?_
  refine tw_if_eq (tgt := 71) hO dX8_faultOf_61 (by decide) (fun cc => ?_) (fun cc => ?_)
  · replace h := tw_ifp cc h
    refine tw_bipush (v := (-6)) hO dX8_faultOf_71 (by decide) ?_
    exact tw_iret hO dX8_faultOf_73 h
  · replace h := tw_ifn cc h
    refine tw_aload_n 0 hO dX8_faultOf_64 rfl rfl ?_
    obtain ⟨v65, e65, h⟩ := tw_bd h
    refine tw_getI hO dX8_faultOf_65 (t := 8) rfl 9 (by decide) rfl tw_w604 rfl e65 ?_
    refine tw_goto (tgt := 73) hO dX8_faultOf_68 (by decide) ?_
    exact tw_iret hO dX8_faultOf_73 h
set_option maxRecDepth 100000 in
set_option maxHeartbeats 4000000 in
theorem wX8_faultOf_h19 (hO : tw_O p s m args meth c cX8_faultOf RX8 1 (some .int) G) {k19 : (tw_St → Nat → Option (Int32 × tw_St))} (hk19 : ∀ (σ : tw_St) (a0 : Nat) (q : Int32 × tw_St), k19 σ a0 = some q → tw_X p l e rmX8_faultOf s m args below meth c 1 G σ 0 0 (tw_Q below args s G 0 0 (some (.int q.1)) q.2) 19 [(0, .ref a0)] []) {σ : tw_St} {a0 : Nat} {q : Int32 × tw_St} (h : fX8_faultOf_h19 k19 σ a0 = some q) : tw_X p l e rmX8_faultOf s m args below meth c 1 G σ 0 0 (tw_Q below args s G 0 0 (some (.int q.1)) q.2) 19 [(0, .ref a0)] [] := by
  unfold fX8_faultOf_h19 at h
  refine tw_aload_n 0 hO dX8_faultOf_19 rfl rfl ?_
  obtain ⟨v20, e20, h⟩ := tw_bd h
  refine tw_getI hO dX8_faultOf_20 (t := 8) rfl 10 (by decide) rfl tw_w605 rfl e20 ?_
  refine tw_if_ne (tgt := 57) hO dX8_faultOf_23 (by decide) (fun cc => ?_) (fun cc => ?_)
  · replace h := tw_ifn cc h
    exact wX8_faultOf_b57 hO h
  · replace h := tw_ifp cc h
    refine tw_aload_n 0 hO dX8_faultOf_26 rfl rfl ?_
    obtain ⟨v27, e27, h⟩ := tw_bd h
    refine tw_getI hO dX8_faultOf_27 (t := 8) rfl 9 (by decide) rfl tw_w604 rfl e27 ?_
    refine tw_aload_n 0 hO dX8_faultOf_30 rfl rfl ?_
    obtain ⟨v31, e31, h⟩ := tw_bd h
    refine tw_getI hO dX8_faultOf_31 (t := 8) rfl 6 (by decide) rfl tw_w601 rfl e31 ?_
    refine tw_icmp_ge (tgt := 57) hO dX8_faultOf_34 (by decide) (fun cc => ?_) (fun cc => ?_)
    · replace h := tw_ifp cc h
      exact wX8_faultOf_b57 hO h
    · replace h := tw_ifn cc h
      refine tw_aload_n 0 hO dX8_faultOf_37 rfl rfl ?_
      refine tw_bipush (v := 59) hO dX8_faultOf_38 (by decide) ?_
      obtain ⟨σ40, e40, h⟩ := tw_bd h
      refine tw_cVv hO (mX8_between l G e40) cfX8_between (t := 8) rfl (kX8_between e40) tw_w715 tw_w717 tw_w26 rfl rfl rfl rfl ⟨(Nat.le_of_ble_eq_true rfl), (Nat.le_of_ble_eq_true rfl)⟩ (Nat.le_of_ble_eq_true rfl) ⟨(Nat.le_of_ble_eq_true rfl), (Nat.le_of_ble_eq_true rfl)⟩ dX8_faultOf_40 ?_
      refine tw_aload_n 0 hO dX8_faultOf_43 rfl rfl ?_
      obtain ⟨v44, e44, h⟩ := tw_bd h
      refine tw_getI hO dX8_faultOf_44 (t := 8) rfl 10 (by decide) rfl tw_w605 rfl e44 ?_
      refine tw_if_ne (tgt := 19) hO dX8_faultOf_47 (by decide) (fun cc => ?_) (fun cc => ?_)
      · replace h := tw_ifn cc h
        exact hk19 _ _ _ h
      · replace h := tw_ifp cc h
        refine tw_aload_n 0 hO dX8_faultOf_50 rfl rfl ?_
        obtain ⟨σ51, e51, h⟩ := tw_bd h
        refine tw_cVv hO (mX8_readOne l G e51) cfX8_readOne (t := 8) rfl (kX8_readOne e51) tw_w703 tw_w705 tw_w23 rfl rfl rfl rfl ⟨(Nat.le_of_ble_eq_true rfl), (Nat.le_of_ble_eq_true rfl)⟩ (Nat.le_of_ble_eq_true rfl) ⟨(Nat.le_of_ble_eq_true rfl), (Nat.le_of_ble_eq_true rfl)⟩ dX8_faultOf_51 ?_
        refine tw_goto (tgt := 19) hO dX8_faultOf_54 (by decide) ?_
        exact hk19 _ _ _ h
set_option maxRecDepth 100000 in
set_option maxHeartbeats 4000000 in
theorem wX8_faultOf_l19 (hO : tw_O p s m args meth c cX8_faultOf RX8 1 (some .int) G) : ∀ (n : Nat) (σ : tw_St) (a0 : Nat) (q : Int32 × tw_St), fX8_faultOf_l19 n σ a0 = some q → tw_X p l e rmX8_faultOf s m args below meth c 1 G σ 0 0 (tw_Q below args s G 0 0 (some (.int q.1)) q.2) 19 [(0, .ref a0)] [] := by
  intro n
  induction n with
  | zero => intro _ _ q h; cases (show (none : Option (Int32 × tw_St)) = some q from h)
  | succ n ih => intro _ _ q h; exact wX8_faultOf_h19 hO ih h
set_option maxRecDepth 100000 in
set_option maxHeartbeats 4000000 in
theorem mX8_faultOf (l : Launch) (G : tw_G) {σ : tw_St} {a : Nat} {q : Int32 × tw_St} (h : fX8_faultOf σ a = some q) : tw_M l G yX8_faultOf cX8_faultOf 1 (some .int) rmX8_faultOf 0 0 σ [.ref a] (some (.int q.1)) q.2 := by
  unfold fX8_faultOf at h
  obtain ⟨_, -, h⟩ := tw_bd h
  refine tw_M.of (by decide +kernel) (Nat.le_of_ble_eq_true rfl) (fun p e s m args below meth c hnm hO => ?_)
  have hO : tw_O p s m args meth c cX8_faultOf RX8 1 (some .int) G := hO
  refine tw_aload_n 0 hO dX8_faultOf_0 rfl rfl ?_
  refine tw_iconst (v := 0) hO dX8_faultOf_1 (by decide) ?_
  obtain ⟨σ2, e2, h⟩ := tw_bd h
  refine tw_putI hO dX8_faultOf_2 (t := 8) rfl 9 (by decide) rfl tw_w604 rfl rfl ⟨rfl, rfl⟩ e2 ?_
  refine tw_aload_n 0 hO dX8_faultOf_5 rfl rfl ?_
  refine tw_iconst (v := 0) hO dX8_faultOf_6 (by decide) ?_
  obtain ⟨σ7, e7, h⟩ := tw_bd h
  refine tw_putI hO dX8_faultOf_7 (t := 8) rfl 8 (by decide) rfl tw_w603 rfl rfl ⟨rfl, rfl⟩ e7 ?_
  refine tw_aload_n 0 hO dX8_faultOf_10 rfl rfl ?_
  refine tw_iconst (v := 0) hO dX8_faultOf_11 (by decide) ?_
  obtain ⟨σ12, e12, h⟩ := tw_bd h
  refine tw_putI hO dX8_faultOf_12 (t := 8) rfl 10 (by decide) rfl tw_w605 rfl rfl ⟨rfl, rfl⟩ e12 ?_
  refine tw_aload_n 0 hO dX8_faultOf_15 rfl rfl ?_
  obtain ⟨σ16, e16, h⟩ := tw_bd h
  refine tw_cVv hO (mX8_readOne l G e16) cfX8_readOne (t := 8) rfl (kX8_readOne e16) tw_w703 tw_w705 tw_w23 rfl rfl rfl rfl ⟨(Nat.le_of_ble_eq_true rfl), (Nat.le_of_ble_eq_true rfl)⟩ (Nat.le_of_ble_eq_true rfl) ⟨(Nat.le_of_ble_eq_true rfl), (Nat.le_of_ble_eq_true rfl)⟩ dX8_faultOf_16 ?_
  exact wX8_faultOf_l19 hO _ _ _ _ h
theorem cfX8_put : tw_CF yX8_put cX8_put 7 (some .int) 1 := ⟨tw_w689, tw_w56, by decide +kernel, by decide +kernel, by decide +kernel⟩
theorem kX8_put {σ : tw_St} {a : Nat} {y1 : Int64} {q : Int32 × tw_St} (h : fX8_put σ a y1 = some q) : tw_is σ 8 a = some () := by
  unfold fX8_put at h
  obtain ⟨_, e1, -⟩ := tw_bd h
  exact e1
set_option maxRecDepth 100000 in
set_option maxHeartbeats 4000000 in
theorem wX8_put_b122 (hO : tw_O p s m args meth c cX8_put RX8 7 (some .int) G) {σ : tw_St} {a0 : Nat} {x3 : Int32} {q : Int32 × tw_St} (h : fX8_put_b122 σ a0 x3 = some q) : tw_X p l e rmX8_put s m args below meth c 7 G σ 0 0 (tw_Q below args s G 0 0 (some (.int q.1)) q.2) 122 [(0, .ref a0), (3, .int x3)] [] := by
  unfold fX8_put_b122 at h
  refine tw_aload_n 0 hO dX8_put_122 rfl rfl ?_
  refine tw_dup hO dX8_put_123 rfl ?_
  obtain ⟨v124, e124, h⟩ := tw_bd h
  refine tw_getI hO dX8_put_124 (t := 8) rfl 6 (by decide) rfl tw_w601 rfl e124 ?_
  refine tw_iload_n 1 hO dX8_put_127 rfl rfl ?_
  refine tw_iadd hO dX8_put_128 ?_
  obtain ⟨σ129, e129, h⟩ := tw_bd h
  refine tw_putI hO dX8_put_129 (t := 8) rfl 6 (by decide) rfl tw_w601 rfl rfl ⟨rfl, rfl⟩ e129 ?_
  refine tw_aload_n 0 hO dX8_put_132 rfl rfl ?_
  obtain ⟨v133, e133, h⟩ := tw_bd h
  refine tw_getI hO dX8_put_133 (t := 8) rfl 6 (by decide) rfl tw_w601 rfl e133 ?_
  exact tw_iret hO dX8_put_136 h
set_option maxRecDepth 100000 in
set_option maxHeartbeats 4000000 in
theorem wX8_put_h85 (hO : tw_O p s m args meth c cX8_put RX8 7 (some .int) G) {k85 : (tw_St → Nat → Int32 → Int64 → Int32 → Option (Int32 × tw_St))} (hk85 : ∀ (σ : tw_St) (a0 : Nat) (x3 : Int32) (y4 : Int64) (x6 : Int32) (q : Int32 × tw_St), k85 σ a0 x3 y4 x6 = some q → tw_X p l e rmX8_put s m args below meth c 7 G σ 0 0 (tw_Q below args s G 0 0 (some (.int q.1)) q.2) 85 [(0, .ref a0), (3, .int x3), (4, .long y4), (6, .int x6)] []) {σ : tw_St} {a0 : Nat} {x3 : Int32} {y4 : Int64} {x6 : Int32} {q : Int32 × tw_St} (h : fX8_put_h85 k85 σ a0 x3 y4 x6 = some q) : tw_X p l e rmX8_put s m args below meth c 7 G σ 0 0 (tw_Q below args s G 0 0 (some (.int q.1)) q.2) 85 [(0, .ref a0), (3, .int x3), (4, .long y4), (6, .int x6)] [] := by
  unfold fX8_put_h85 at h
  refine tw_iload 3 hO dX8_put_85 rfl ?_
  refine tw_if_lt (tgt := 122) hO dX8_put_87 (by decide) (fun cc => ?_) (fun cc => ?_)
  · replace h := tw_ifp cc h
    refine tw_sub [0, 1] rfl ?_
    exact wX8_put_b122 hO h
  · replace h := tw_ifn cc h
    refine tw_aload_n 0 hO dX8_put_90 rfl rfl ?_
    obtain ⟨v91, e91, h⟩ := tw_bd h
    refine tw_getP hO dX8_put_91 (t := 8) rfl 5 (by decide) rfl tw_w600 rfl e91 ?_
    refine tw_aload_n 0 hO dX8_put_94 rfl rfl ?_
    obtain ⟨v95, e95, h⟩ := tw_bd h
    refine tw_getI hO dX8_put_95 (t := 8) rfl 6 (by decide) rfl tw_w601 rfl e95 ?_
    refine tw_iload 3 hO dX8_put_98 rfl ?_
    refine tw_iadd hO dX8_put_100 ?_
    refine tw_lload 2 hO dX8_put_101 rfl ?_
    refine tw_ldc2 hO tw_w690 dX8_put_103 ?_
    refine tw_land hO dX8_put_106 ?_
    refine tw_l2i hO dX8_put_107 ?_
    obtain ⟨σ108, e108, h⟩ := tw_bd h
    refine tw_iast hO dX8_put_108 e108 ?_
    refine tw_lload 2 hO dX8_put_109 rfl ?_
    refine tw_bipush (v := 8) hO dX8_put_111 (by decide) ?_
    refine tw_lushr hO dX8_put_113 ?_
    refine tw_lstore (lv' := [(4, .long ((y4.toUInt64 >>> ((8 : Int32).toInt64.toUInt64 &&& Int64.toUInt64 63)).toInt64)), (0, .ref a0), (3, .int x3), (6, .int x6)]) hO dX8_put_114 (by decide) rfl ?_
    refine tw_iinc (q := 3) (v := (x6 + (-1))) (lv' := [(6, .int (x6 + (-1))), (4, .long ((y4.toUInt64 >>> ((8 : Int32).toInt64.toUInt64 &&& Int64.toUInt64 63)).toInt64)), (0, .ref a0), (3, .int x3)]) hO dX8_put_116 rfl rfl (by decide) rfl ?_
    refine tw_goto (tgt := 85) hO dX8_put_119 (by decide) ?_
    refine tw_sub [2, 3, 1, 0] rfl ?_
    exact hk85 _ _ _ _ _ _ h
set_option maxRecDepth 100000 in
set_option maxHeartbeats 4000000 in
theorem wX8_put_l85 (hO : tw_O p s m args meth c cX8_put RX8 7 (some .int) G) : ∀ (n : Nat) (σ : tw_St) (a0 : Nat) (x3 : Int32) (y4 : Int64) (x6 : Int32) (q : Int32 × tw_St), fX8_put_l85 n σ a0 x3 y4 x6 = some q → tw_X p l e rmX8_put s m args below meth c 7 G σ 0 0 (tw_Q below args s G 0 0 (some (.int q.1)) q.2) 85 [(0, .ref a0), (3, .int x3), (4, .long y4), (6, .int x6)] [] := by
  intro n
  induction n with
  | zero => intro _ _ _ _ _ q h; cases (show (none : Option (Int32 × tw_St)) = some q from h)
  | succ n ih => intro _ _ _ _ _ q h; exact wX8_put_h85 hO ih h
set_option maxRecDepth 100000 in
set_option maxHeartbeats 4000000 in
theorem wX8_put_b49 (hO : tw_O p s m args meth c cX8_put RX8 7 (some .int) G) {σ : tw_St} {a0 : Nat} {y1 : Int64} {x3 : Int32} {y4 : Int64} {q : Int32 × tw_St} (h : fX8_put_b49 σ a0 y1 x3 y4 = some q) : tw_X p l e rmX8_put s m args below meth c 7 G σ 0 0 (tw_Q below args s G 0 0 (some (.int q.1)) q.2) 49 [(0, .ref a0), (1, .long y1), (3, .int x3), (4, .long y4)] [] := by
  unfold fX8_put_b49 at h
  refine tw_lload 3 hO dX8_put_49 rfl ?_
  refine tw_lconst (v := 0) hO dX8_put_51 (by decide) ?_
  refine tw_lcmp hO dX8_put_52 ?_
  refine tw_if_ne (tgt := 60) hO dX8_put_53 (by decide) (fun cc => ?_) (fun cc => ?_)
  · replace h := tw_ifn cc h
    refine tw_bipush (v := (-2)) hO dX8_put_60 (by decide) ?_
    exact tw_iret hO dX8_put_62 h
  · replace h := tw_ifp cc h
    refine tw_iload_n 2 hO dX8_put_56 rfl rfl ?_
    refine tw_if_ne (tgt := 63) hO dX8_put_57 (by decide) (fun cc => ?_) (fun cc => ?_)
    · replace h := tw_ifn cc h
      refine tw_aload_n 0 hO dX8_put_63 rfl rfl ?_
      obtain ⟨v64, e64, h⟩ := tw_bd h
      refine tw_getI hO dX8_put_64 (t := 8) rfl 6 (by decide) rfl tw_w601 rfl e64 ?_
      refine tw_iload_n 2 hO dX8_put_67 rfl rfl ?_
      refine tw_iadd hO dX8_put_68 ?_
      refine tw_bipush (v := 80) hO dX8_put_69 (by decide) ?_
      refine tw_icmp_le (tgt := 77) hO dX8_put_71 (by decide) (fun cc => ?_) (fun cc => ?_)
      · replace h := tw_ifp cc h
        refine tw_lload_n 1 hO dX8_put_77 rfl rfl ?_
        refine tw_lstore (lv' := [(4, .long y1), (0, .ref a0), (1, .long y1), (3, .int x3)]) hO dX8_put_78 (by decide) rfl ?_
        refine tw_iload_n 3 hO dX8_put_80 rfl rfl ?_
        refine tw_iconst (v := 1) hO dX8_put_81 (by decide) ?_
        refine tw_isub hO dX8_put_82 ?_
        refine tw_istore (lv' := [(6, .int (x3 - 1)), (4, .long y1), (0, .ref a0), (1, .long y1), (3, .int x3)]) hO dX8_put_83 (by decide) rfl ?_
        refine tw_sub [2, 4, 1, 0] rfl ?_
        exact wX8_put_l85 hO _ _ _ _ _ _ _ h
      · replace h := tw_ifn cc h
        refine tw_bipush (v := (-4)) hO dX8_put_74 (by decide) ?_
        exact tw_iret hO dX8_put_76 h
    · replace h := tw_ifp cc h
      refine tw_bipush (v := (-2)) hO dX8_put_60 (by decide) ?_
      exact tw_iret hO dX8_put_62 h
set_option maxRecDepth 100000 in
set_option maxHeartbeats 4000000 in
theorem wX8_put_h5 (hO : tw_O p s m args meth c cX8_put RX8 7 (some .int) G) {k5 : (tw_St → Nat → Int64 → Int32 → Int64 → Option (Int32 × tw_St))} (hk5 : ∀ (σ : tw_St) (a0 : Nat) (y1 : Int64) (x3 : Int32) (y4 : Int64) (q : Int32 × tw_St), k5 σ a0 y1 x3 y4 = some q → tw_X p l e rmX8_put s m args below meth c 7 G σ 0 0 (tw_Q below args s G 0 0 (some (.int q.1)) q.2) 5 [(0, .ref a0), (1, .long y1), (3, .int x3), (4, .long y4)] []) {σ : tw_St} {a0 : Nat} {y1 : Int64} {x3 : Int32} {y4 : Int64} {q : Int32 × tw_St} (h : fX8_put_h5 k5 σ a0 y1 x3 y4 = some q) : tw_X p l e rmX8_put s m args below meth c 7 G σ 0 0 (tw_Q below args s G 0 0 (some (.int q.1)) q.2) 5 [(0, .ref a0), (1, .long y1), (3, .int x3), (4, .long y4)] [] := by
  unfold fX8_put_h5 at h
  refine tw_lload 3 hO dX8_put_5 rfl ?_
  refine tw_ldc2 hO tw_w690 dX8_put_7 ?_
  refine tw_land hO dX8_put_10 ?_
  refine tw_lconst (v := 0) hO dX8_put_11 (by decide) ?_
  refine tw_lcmp hO dX8_put_12 ?_
  refine tw_if_eq (tgt := 49) hO dX8_put_13 (by decide) (fun cc => ?_) (fun cc => ?_)
  · replace h := tw_ifp cc h
    exact wX8_put_b49 hO h
  · replace h := tw_ifn cc h
    refine tw_lload 3 hO dX8_put_16 rfl ?_
    refine tw_ldc2 hO tw_w690 dX8_put_18 ?_
    refine tw_land hO dX8_put_21 ?_
    refine tw_l2i hO dX8_put_22 ?_
    refine tw_bipush (v := 33) hO dX8_put_23 (by decide) ?_
    refine tw_bipush (v := 126) hO dX8_put_25 (by decide) ?_
    obtain ⟨v27, e27, h⟩ := tw_bd h
    refine tw_cSi hO (mX8_in l G e27) cfX8_in tw_w672 tw_w673 rfl rfl rfl rfl ⟨(Nat.le_of_ble_eq_true rfl), (Nat.le_of_ble_eq_true rfl)⟩ (Nat.le_of_ble_eq_true rfl) ⟨(Nat.le_of_ble_eq_true rfl), (Nat.le_of_ble_eq_true rfl)⟩ dX8_put_27 ?_
    refine tw_if_ne (tgt := 36) hO dX8_put_30 (by decide) (fun cc => ?_) (fun cc => ?_)
    · replace h := tw_ifn cc h
      refine tw_iinc (q := 2) (v := (x3 + 1)) (lv' := [(3, .int (x3 + 1)), (0, .ref a0), (1, .long y1), (4, .long y4)]) hO dX8_put_36 rfl rfl (by decide) rfl ?_
      refine tw_lload 3 hO dX8_put_39 rfl ?_
      refine tw_bipush (v := 8) hO dX8_put_41 (by decide) ?_
      refine tw_lushr hO dX8_put_43 ?_
      refine tw_lstore (lv' := [(4, .long ((y4.toUInt64 >>> ((8 : Int32).toInt64.toUInt64 &&& Int64.toUInt64 63)).toInt64)), (3, .int (x3 + 1)), (0, .ref a0), (1, .long y1)]) hO dX8_put_44 (by decide) rfl ?_
      refine tw_goto (tgt := 5) hO dX8_put_46 (by decide) ?_
      refine tw_sub [2, 3, 1, 0] rfl ?_
      exact hk5 _ _ _ _ _ _ h
    · replace h := tw_ifp cc h
      refine tw_bipush (v := (-2)) hO dX8_put_33 (by decide) ?_
      exact tw_iret hO dX8_put_35 h
set_option maxRecDepth 100000 in
set_option maxHeartbeats 4000000 in
theorem wX8_put_l5 (hO : tw_O p s m args meth c cX8_put RX8 7 (some .int) G) : ∀ (n : Nat) (σ : tw_St) (a0 : Nat) (y1 : Int64) (x3 : Int32) (y4 : Int64) (q : Int32 × tw_St), fX8_put_l5 n σ a0 y1 x3 y4 = some q → tw_X p l e rmX8_put s m args below meth c 7 G σ 0 0 (tw_Q below args s G 0 0 (some (.int q.1)) q.2) 5 [(0, .ref a0), (1, .long y1), (3, .int x3), (4, .long y4)] [] := by
  intro n
  induction n with
  | zero => intro _ _ _ _ _ q h; cases (show (none : Option (Int32 × tw_St)) = some q from h)
  | succ n ih => intro _ _ _ _ _ q h; exact wX8_put_h5 hO ih h
set_option maxRecDepth 100000 in
set_option maxHeartbeats 4000000 in
theorem mX8_put (l : Launch) (G : tw_G) {σ : tw_St} {a : Nat} {y1 : Int64} {q : Int32 × tw_St} (h : fX8_put σ a y1 = some q) : tw_M l G yX8_put cX8_put 7 (some .int) rmX8_put 0 0 σ [.ref a, .long y1] (some (.int q.1)) q.2 := by
  unfold fX8_put at h
  obtain ⟨_, -, h⟩ := tw_bd h
  refine tw_M.of (by decide +kernel) (Nat.le_of_ble_eq_true rfl) (fun p e s m args below meth c hnm hO => ?_)
  have hO : tw_O p s m args meth c cX8_put RX8 7 (some .int) G := hO
  refine tw_iconst (v := 0) hO dX8_put_0 (by decide) ?_
  refine tw_istore_n (lv' := [(3, .int 0), (0, .ref a), (1, .long y1)]) hO dX8_put_1 rfl (by decide) rfl ?_
  refine tw_lload_n 2 hO dX8_put_2 rfl rfl ?_
  refine tw_lstore (lv' := [(4, .long y1), (3, .int 0), (0, .ref a), (1, .long y1)]) hO dX8_put_3 (by decide) rfl ?_
  refine tw_sub [2, 3, 1, 0] rfl ?_
  exact wX8_put_l5 hO _ _ _ _ _ _ _ h
theorem cfX8_wipe : tw_CF yX8_wipe cX8_wipe 2 (some .int) 0 := ⟨tw_w694, tw_w56, by decide +kernel, by decide +kernel, by decide +kernel⟩
theorem kX8_wipe {σ : tw_St} {a : Nat} {q : Int32 × tw_St} (h : fX8_wipe σ a = some q) : tw_is σ 8 a = some () := by
  unfold fX8_wipe at h
  obtain ⟨_, e1, -⟩ := tw_bd h
  exact e1
set_option maxRecDepth 100000 in
set_option maxHeartbeats 4000000 in
theorem mX8_wipe (l : Launch) (G : tw_G) {σ : tw_St} {a : Nat} {q : Int32 × tw_St} (h : fX8_wipe σ a = some q) : tw_M l G yX8_wipe cX8_wipe 2 (some .int) rmX8_wipe 0 0 σ [.ref a] (some (.int q.1)) q.2 := by
  unfold fX8_wipe at h
  obtain ⟨_, -, h⟩ := tw_bd h
  refine tw_M.of (by decide +kernel) (Nat.le_of_ble_eq_true rfl) (fun p e s m args below meth c hnm hO => ?_)
  have hO : tw_O p s m args meth c cX8_wipe RX8 2 (some .int) G := hO
  refine tw_aload_n 0 hO dX8_wipe_0 rfl rfl ?_
  obtain ⟨v1, e1, h⟩ := tw_bd h
  refine tw_getI hO dX8_wipe_1 (t := 8) rfl 6 (by decide) rfl tw_w601 rfl e1 ?_
  refine tw_istore_n (lv' := [(1, .int v1), (0, .ref a)]) hO dX8_wipe_4 rfl (by decide) rfl ?_
  refine tw_aload_n 1 hO dX8_wipe_5 rfl rfl ?_
  refine tw_iconst (v := 0) hO dX8_wipe_6 (by decide) ?_
  obtain ⟨σ7, e7, h⟩ := tw_bd h
  refine tw_putI hO dX8_wipe_7 (t := 8) rfl 6 (by decide) rfl tw_w601 rfl rfl ⟨rfl, rfl⟩ e7 ?_
  refine tw_iload_n 0 hO dX8_wipe_10 rfl rfl ?_
  exact tw_iret hO dX8_wipe_11 h
theorem cfX8_fault : tw_CF yX8_fault cX8_fault 1 (some .int) 0 := ⟨tw_w698, tw_w56, by decide +kernel, by decide +kernel, by decide +kernel⟩
theorem kX8_fault {σ : tw_St} {a : Nat} {q : Int32 × tw_St} (h : fX8_fault σ a = some q) : tw_is σ 8 a = some () := by
  unfold fX8_fault at h
  obtain ⟨_, e1, -⟩ := tw_bd h
  exact e1
set_option maxRecDepth 100000 in
set_option maxHeartbeats 4000000 in
theorem mX8_fault (l : Launch) (G : tw_G) {σ : tw_St} {a : Nat} {q : Int32 × tw_St} (h : fX8_fault σ a = some q) : tw_M l G yX8_fault cX8_fault 1 (some .int) rmX8_fault 0 0 σ [.ref a] (some (.int q.1)) q.2 := by
  unfold fX8_fault at h
  obtain ⟨_, -, h⟩ := tw_bd h
  refine tw_M.of (by decide +kernel) (Nat.le_of_ble_eq_true rfl) (fun p e s m args below meth c hnm hO => ?_)
  have hO : tw_O p s m args meth c cX8_fault RX8 1 (some .int) G := hO
  refine tw_aload_n 0 hO dX8_fault_0 rfl rfl ?_
  obtain ⟨q1, e1, h⟩ := tw_bd h
  refine tw_cVi hO (mX8_faultOf l G e1) cfX8_faultOf (t := 8) rfl (kX8_faultOf e1) tw_w699 tw_w701 tw_w22 rfl rfl rfl rfl ⟨(Nat.le_of_ble_eq_true rfl), (Nat.le_of_ble_eq_true rfl)⟩ (Nat.le_of_ble_eq_true rfl) ⟨(Nat.le_of_ble_eq_true rfl), (Nat.le_of_ble_eq_true rfl)⟩ dX8_fault_1 ?_
  exact tw_iret hO dX8_fault_4 h
theorem cfX8_program : tw_CF yX8_program cX8_program 3 (some .int) 1 := ⟨tw_w734, tw_w56, by decide +kernel, by decide +kernel, by decide +kernel⟩
theorem kX8_program {σ : tw_St} {a : Nat} {x1 : Int32} {q : Int32 × tw_St} (h : fX8_program σ a x1 = some q) : tw_is σ 8 a = some () := by
  unfold fX8_program at h
  obtain ⟨_, e1, -⟩ := tw_bd h
  exact e1
set_option maxRecDepth 100000 in
set_option maxHeartbeats 4000000 in
theorem wX8_program_b93 (hO : tw_O p s m args meth c cX8_program RX8 3 (some .int) G) {σ : tw_St} {a0 : Nat} {q : Int32 × tw_St} (h : fX8_program_b93 σ a0 = some q) : tw_X p l e rmX8_program s m args below meth c 3 G σ 0 0 (tw_Q below args s G 0 0 (some (.int q.1)) q.2) 93 [(0, .ref a0)] [] := by
  unfold fX8_program_b93 at h
  refine tw_aload_n 0 hO dX8_program_93 rfl rfl ?_
  refine tw_iconst (v := 0) hO dX8_program_94 (by decide) ?_
  obtain ⟨σ95, e95, h⟩ := tw_bd h
  refine tw_putI hO dX8_program_95 (t := 8) rfl 6 (by decide) rfl tw_w601 rfl rfl ⟨rfl, rfl⟩ e95 ?_
  refine tw_aload_n 0 hO dX8_program_98 rfl rfl ?_
  obtain ⟨v99, e99, h⟩ := tw_bd h
  refine tw_getI hO dX8_program_99 (t := 8) rfl 8 (by decide) rfl tw_w603 rfl e99 ?_
  exact tw_iret hO dX8_program_102 h
set_option maxRecDepth 100000 in
set_option maxHeartbeats 4000000 in
theorem wX8_program_h55 (hO : tw_O p s m args meth c cX8_program RX8 3 (some .int) G) {k55 : (tw_St → Nat → Int32 → Int32 → Option (Int32 × tw_St))} (hk55 : ∀ (σ : tw_St) (a0 : Nat) (x1 : Int32) (x2 : Int32) (q : Int32 × tw_St), k55 σ a0 x1 x2 = some q → tw_X p l e rmX8_program s m args below meth c 3 G σ 0 0 (tw_Q below args s G 0 0 (some (.int q.1)) q.2) 55 [(0, .ref a0), (1, .int x1), (2, .int x2)] []) {σ : tw_St} {a0 : Nat} {x1 : Int32} {x2 : Int32} {q : Int32 × tw_St} (h : fX8_program_h55 k55 σ a0 x1 x2 = some q) : tw_X p l e rmX8_program s m args below meth c 3 G σ 0 0 (tw_Q below args s G 0 0 (some (.int q.1)) q.2) 55 [(0, .ref a0), (1, .int x1), (2, .int x2)] [] := by
  unfold fX8_program_h55 at h
  refine tw_iload_n 2 hO dX8_program_55 rfl rfl ?_
  refine tw_iconst (v := 5) hO dX8_program_56 (by decide) ?_
  refine tw_aload_n 0 hO dX8_program_57 rfl rfl ?_
  obtain ⟨v58, e58, h⟩ := tw_bd h
  refine tw_getI hO dX8_program_58 (t := 8) rfl 8 (by decide) rfl tw_w603 rfl e58 ?_
  refine tw_imul hO dX8_program_61 ?_
  refine tw_icmp_ge (tgt := 93) hO dX8_program_62 (by decide) (fun cc => ?_) (fun cc => ?_)
  · replace h := tw_ifp cc h
    refine tw_sub [0] rfl ?_
    exact wX8_program_b93 hO h
  · replace h := tw_ifn cc h
    refine tw_aload_n 0 hO dX8_program_65 rfl rfl ?_
    obtain ⟨v66, e66, h⟩ := tw_bd h
    refine tw_getP hO dX8_program_66 (t := 8) rfl 0 (by decide) rfl tw_w595 rfl e66 ?_
    refine tw_bipush (v := 10) hO dX8_program_69 (by decide) ?_
    refine tw_bipush (v := 100) hO dX8_program_71 (by decide) ?_
    refine tw_iload_n 1 hO dX8_program_73 rfl rfl ?_
    refine tw_imul hO dX8_program_74 ?_
    refine tw_iadd hO dX8_program_75 ?_
    refine tw_iconst (v := 1) hO dX8_program_76 (by decide) ?_
    refine tw_iadd hO dX8_program_77 ?_
    refine tw_iload_n 2 hO dX8_program_78 rfl rfl ?_
    refine tw_iadd hO dX8_program_79 ?_
    refine tw_aload_n 0 hO dX8_program_80 rfl rfl ?_
    obtain ⟨v81, e81, h⟩ := tw_bd h
    refine tw_getP hO dX8_program_81 (t := 8) rfl 7 (by decide) rfl tw_w602 rfl e81 ?_
    refine tw_iload_n 2 hO dX8_program_84 rfl rfl ?_
    obtain ⟨v85, e85, h⟩ := tw_bd h
    refine tw_iald hO dX8_program_85 e85 ?_
    obtain ⟨σ86, e86, h⟩ := tw_bd h
    refine tw_iast hO dX8_program_86 e86 ?_
    refine tw_iinc (q := 2) (v := (x2 + 1)) (lv' := [(2, .int (x2 + 1)), (0, .ref a0), (1, .int x1)]) hO dX8_program_87 rfl rfl (by decide) rfl ?_
    refine tw_goto (tgt := 55) hO dX8_program_90 (by decide) ?_
    refine tw_sub [1, 2, 0] rfl ?_
    exact hk55 _ _ _ _ _ h
set_option maxRecDepth 100000 in
set_option maxHeartbeats 4000000 in
theorem wX8_program_l55 (hO : tw_O p s m args meth c cX8_program RX8 3 (some .int) G) : ∀ (n : Nat) (σ : tw_St) (a0 : Nat) (x1 : Int32) (x2 : Int32) (q : Int32 × tw_St), fX8_program_l55 n σ a0 x1 x2 = some q → tw_X p l e rmX8_program s m args below meth c 3 G σ 0 0 (tw_Q below args s G 0 0 (some (.int q.1)) q.2) 55 [(0, .ref a0), (1, .int x1), (2, .int x2)] [] := by
  intro n
  induction n with
  | zero => intro _ _ _ _ q h; cases (show (none : Option (Int32 × tw_St)) = some q from h)
  | succ n ih => intro _ _ _ _ q h; exact wX8_program_h55 hO ih h
set_option maxRecDepth 100000 in
set_option maxHeartbeats 4000000 in
theorem mX8_program (l : Launch) (G : tw_G) {σ : tw_St} {a : Nat} {x1 : Int32} {q : Int32 × tw_St} (h : fX8_program σ a x1 = some q) : tw_M l G yX8_program cX8_program 3 (some .int) rmX8_program 0 0 σ [.ref a, .int x1] (some (.int q.1)) q.2 := by
  unfold fX8_program at h
  obtain ⟨_, -, h⟩ := tw_bd h
  refine tw_M.of (by decide +kernel) (Nat.le_of_ble_eq_true rfl) (fun p e s m args below meth c hnm hO => ?_)
  have hO : tw_O p s m args meth c cX8_program RX8 3 (some .int) G := hO
  refine tw_iload_n 1 hO dX8_program_0 rfl rfl ?_
  obtain ⟨v1, e1, h⟩ := tw_bd h
  refine tw_cSi hO (mX8_isThread l G e1) cfX8_isThread tw_w683 tw_w684 rfl rfl rfl rfl ⟨(Nat.le_of_ble_eq_true rfl), (Nat.le_of_ble_eq_true rfl)⟩ (Nat.le_of_ble_eq_true rfl) ⟨(Nat.le_of_ble_eq_true rfl), (Nat.le_of_ble_eq_true rfl)⟩ dX8_program_1 ?_
  refine tw_if_ne (tgt := 9) hO dX8_program_4 (by decide) (fun cc => ?_) (fun cc => ?_)
  · replace h := tw_ifn cc h
    refine tw_aload_n 0 hO dX8_program_9 rfl rfl ?_
    obtain ⟨q10, e10, h⟩ := tw_bd h
    refine tw_cVi hO (mX8_faultOf l G e10) cfX8_faultOf (t := 8) rfl (kX8_faultOf e10) tw_w699 tw_w701 tw_w22 rfl rfl rfl rfl ⟨(Nat.le_of_ble_eq_true rfl), (Nat.le_of_ble_eq_true rfl)⟩ (Nat.le_of_ble_eq_true rfl) ⟨(Nat.le_of_ble_eq_true rfl), (Nat.le_of_ble_eq_true rfl)⟩ dX8_program_10 ?_
    refine tw_bipush (v := (-6)) hO dX8_program_13 (by decide) ?_
    refine tw_icmp_eq (tgt := 21) hO dX8_program_15 (by decide) (fun cc => ?_) (fun cc => ?_)
    · replace h := tw_ifp cc h
      refine tw_aload_n 0 hO dX8_program_21 rfl rfl ?_
      obtain ⟨v22, e22, h⟩ := tw_bd h
      refine tw_getI hO dX8_program_22 (t := 8) rfl 8 (by decide) rfl tw_w603 rfl e22 ?_
      refine tw_bipush (v := 12) hO dX8_program_25 (by decide) ?_
      refine tw_icmp_le (tgt := 33) hO dX8_program_27 (by decide) (fun cc => ?_) (fun cc => ?_)
      · replace h := tw_ifp cc h
        refine tw_aload_n 0 hO dX8_program_33 rfl rfl ?_
        obtain ⟨σ34, e34, h⟩ := tw_bd h
        refine tw_cVv hO (mX8_record l G e34) cfX8_record (t := 8) rfl (kX8_record e34) tw_w675 tw_w677 tw_w21 rfl rfl rfl rfl ⟨(Nat.le_of_ble_eq_true rfl), (Nat.le_of_ble_eq_true rfl)⟩ (Nat.le_of_ble_eq_true rfl) ⟨(Nat.le_of_ble_eq_true rfl), (Nat.le_of_ble_eq_true rfl)⟩ dX8_program_34 ?_
        refine tw_aload_n 0 hO dX8_program_37 rfl rfl ?_
        obtain ⟨v38, e38, h⟩ := tw_bd h
        refine tw_getP hO dX8_program_38 (t := 8) rfl 0 (by decide) rfl tw_w595 rfl e38 ?_
        refine tw_bipush (v := 10) hO dX8_program_41 (by decide) ?_
        refine tw_bipush (v := 100) hO dX8_program_43 (by decide) ?_
        refine tw_iload_n 1 hO dX8_program_45 rfl rfl ?_
        refine tw_imul hO dX8_program_46 ?_
        refine tw_iadd hO dX8_program_47 ?_
        refine tw_aload_n 0 hO dX8_program_48 rfl rfl ?_
        obtain ⟨v49, e49, h⟩ := tw_bd h
        refine tw_getI hO dX8_program_49 (t := 8) rfl 8 (by decide) rfl tw_w603 rfl e49 ?_
        obtain ⟨σ52, e52, h⟩ := tw_bd h
        refine tw_iast hO dX8_program_52 e52 ?_
        refine tw_iconst (v := 0) hO dX8_program_53 (by decide) ?_
        refine tw_istore_n (lv' := [(2, .int 0), (0, .ref a), (1, .int x1)]) hO dX8_program_54 rfl (by decide) rfl ?_
        refine tw_sub [1, 2, 0] rfl ?_
        exact wX8_program_l55 hO _ _ _ _ _ _ h
      · replace h := tw_ifn cc h
        refine tw_bipush (v := (-4)) hO dX8_program_30 (by decide) ?_
        exact tw_iret hO dX8_program_32 h
    · replace h := tw_ifn cc h
      refine tw_bipush (v := (-3)) hO dX8_program_18 (by decide) ?_
      exact tw_iret hO dX8_program_20 h
  · replace h := tw_ifp cc h
    refine tw_iconst (v := (-1)) hO dX8_program_7 (by decide) ?_
    exact tw_iret hO dX8_program_8 h
theorem cfX8_many : tw_CF yX8_many cX8_many 2 (some .int) 1 := ⟨tw_w742, tw_w56, by decide +kernel, by decide +kernel, by decide +kernel⟩
theorem kX8_many {σ : tw_St} {a : Nat} {x1 : Int32} {q : Int32} (h : fX8_many σ a x1 = some q) : tw_is σ 8 a = some () := by
  unfold fX8_many at h
  obtain ⟨_, e1, -⟩ := tw_bd h
  exact e1
set_option maxRecDepth 100000 in
set_option maxHeartbeats 4000000 in
theorem mX8_many (l : Launch) (G : tw_G) {σ : tw_St} {a : Nat} {x1 : Int32} {q : Int32} (h : fX8_many σ a x1 = some q) : tw_M l G yX8_many cX8_many 2 (some .int) rmX8_many 0 0 σ [.ref a, .int x1] (some (.int q)) σ := by
  unfold fX8_many at h
  obtain ⟨_, -, h⟩ := tw_bd h
  refine tw_M.of (by decide +kernel) (Nat.le_of_ble_eq_true rfl) (fun p e s m args below meth c hnm hO => ?_)
  have hO : tw_O p s m args meth c cX8_many RX8 2 (some .int) G := hO
  refine tw_aload_n 0 hO dX8_many_0 rfl rfl ?_
  obtain ⟨v1, e1, h⟩ := tw_bd h
  refine tw_getP hO dX8_many_1 (t := 8) rfl 0 (by decide) rfl tw_w595 rfl e1 ?_
  refine tw_bipush (v := 10) hO dX8_many_4 (by decide) ?_
  refine tw_bipush (v := 100) hO dX8_many_6 (by decide) ?_
  refine tw_iload_n 1 hO dX8_many_8 rfl rfl ?_
  refine tw_imul hO dX8_many_9 ?_
  refine tw_iadd hO dX8_many_10 ?_
  obtain ⟨v11, e11, h⟩ := tw_bd h
  refine tw_iald hO dX8_many_11 e11 ?_
  exact tw_iretR hO dX8_many_12 h
theorem cfX8_of : tw_CF yX8_of cX8_of 4 (some .int) 3 := ⟨tw_w770, tw_w56, by decide +kernel, by decide +kernel, by decide +kernel⟩
theorem kX8_of {σ : tw_St} {a : Nat} {x1 : Int32} {x2 : Int32} {x3 : Int32} {q : Int32} (h : fX8_of σ a x1 x2 x3 = some q) : tw_is σ 8 a = some () := by
  unfold fX8_of at h
  obtain ⟨_, e1, -⟩ := tw_bd h
  exact e1
set_option maxRecDepth 100000 in
set_option maxHeartbeats 4000000 in
theorem mX8_of (l : Launch) (G : tw_G) {σ : tw_St} {a : Nat} {x1 : Int32} {x2 : Int32} {x3 : Int32} {q : Int32} (h : fX8_of σ a x1 x2 x3 = some q) : tw_M l G yX8_of cX8_of 4 (some .int) rmX8_of 0 0 σ [.ref a, .int x1, .int x2, .int x3] (some (.int q)) σ := by
  unfold fX8_of at h
  obtain ⟨_, -, h⟩ := tw_bd h
  refine tw_M.of (by decide +kernel) (Nat.le_of_ble_eq_true rfl) (fun p e s m args below meth c hnm hO => ?_)
  have hO : tw_O p s m args meth c cX8_of RX8 4 (some .int) G := hO
  refine tw_aload_n 0 hO dX8_of_0 rfl rfl ?_
  obtain ⟨v1, e1, h⟩ := tw_bd h
  refine tw_getP hO dX8_of_1 (t := 8) rfl 0 (by decide) rfl tw_w595 rfl e1 ?_
  refine tw_bipush (v := 10) hO dX8_of_4 (by decide) ?_
  refine tw_bipush (v := 100) hO dX8_of_6 (by decide) ?_
  refine tw_iload_n 1 hO dX8_of_8 rfl rfl ?_
  refine tw_imul hO dX8_of_9 ?_
  refine tw_iadd hO dX8_of_10 ?_
  refine tw_iconst (v := 1) hO dX8_of_11 (by decide) ?_
  refine tw_iadd hO dX8_of_12 ?_
  refine tw_iconst (v := 5) hO dX8_of_13 (by decide) ?_
  refine tw_iload_n 2 hO dX8_of_14 rfl rfl ?_
  refine tw_imul hO dX8_of_15 ?_
  refine tw_iadd hO dX8_of_16 ?_
  refine tw_iload_n 3 hO dX8_of_17 rfl rfl ?_
  refine tw_iadd hO dX8_of_18 ?_
  obtain ⟨v19, e19, h⟩ := tw_bd h
  refine tw_iald hO dX8_of_19 e19 ?_
  exact tw_iretR hO dX8_of_20 h
theorem cfX8_drop : tw_CF yX8_drop cX8_drop 3 (some .int) 1 := ⟨tw_w738, tw_w56, by decide +kernel, by decide +kernel, by decide +kernel⟩
theorem kX8_drop {σ : tw_St} {a : Nat} {x1 : Int32} {q : Int32 × tw_St} (h : fX8_drop σ a x1 = some q) : tw_is σ 8 a = some () := by
  unfold fX8_drop at h
  obtain ⟨_, e1, -⟩ := tw_bd h
  exact e1
set_option maxRecDepth 100000 in
set_option maxHeartbeats 4000000 in
theorem mX8_drop (l : Launch) (G : tw_G) {σ : tw_St} {a : Nat} {x1 : Int32} {q : Int32 × tw_St} (h : fX8_drop σ a x1 = some q) : tw_M l G yX8_drop cX8_drop 3 (some .int) rmX8_drop 0 0 σ [.ref a, .int x1] (some (.int q.1)) q.2 := by
  unfold fX8_drop at h
  obtain ⟨_, -, h⟩ := tw_bd h
  refine tw_M.of (by decide +kernel) (Nat.le_of_ble_eq_true rfl) (fun p e s m args below meth c hnm hO => ?_)
  have hO : tw_O p s m args meth c cX8_drop RX8 3 (some .int) G := hO
  refine tw_iload_n 1 hO dX8_drop_0 rfl rfl ?_
  obtain ⟨v1, e1, h⟩ := tw_bd h
  refine tw_cSi hO (mX8_isThread l G e1) cfX8_isThread tw_w683 tw_w684 rfl rfl rfl rfl ⟨(Nat.le_of_ble_eq_true rfl), (Nat.le_of_ble_eq_true rfl)⟩ (Nat.le_of_ble_eq_true rfl) ⟨(Nat.le_of_ble_eq_true rfl), (Nat.le_of_ble_eq_true rfl)⟩ dX8_drop_1 ?_
  refine tw_if_ne (tgt := 9) hO dX8_drop_4 (by decide) (fun cc => ?_) (fun cc => ?_)
  · replace h := tw_ifn cc h
    refine tw_aload_n 0 hO dX8_drop_9 rfl rfl ?_
    obtain ⟨σ10, e10, h⟩ := tw_bd h
    refine tw_cVv hO (mX8_record l G e10) cfX8_record (t := 8) rfl (kX8_record e10) tw_w675 tw_w677 tw_w21 rfl rfl rfl rfl ⟨(Nat.le_of_ble_eq_true rfl), (Nat.le_of_ble_eq_true rfl)⟩ (Nat.le_of_ble_eq_true rfl) ⟨(Nat.le_of_ble_eq_true rfl), (Nat.le_of_ble_eq_true rfl)⟩ dX8_drop_10 ?_
    refine tw_aload_n 0 hO dX8_drop_13 rfl rfl ?_
    refine tw_iload_n 1 hO dX8_drop_14 rfl rfl ?_
    obtain ⟨v15, e15, h⟩ := tw_bd h
    refine tw_cVi hO (mX8_many l G e15) cfX8_many (t := 8) rfl (kX8_many e15) tw_w739 tw_w741 tw_w30 rfl rfl rfl rfl ⟨(Nat.le_of_ble_eq_true rfl), (Nat.le_of_ble_eq_true rfl)⟩ (Nat.le_of_ble_eq_true rfl) ⟨(Nat.le_of_ble_eq_true rfl), (Nat.le_of_ble_eq_true rfl)⟩ dX8_drop_15 ?_
    refine tw_istore_n (lv' := [(2, .int v15), (0, .ref a), (1, .int x1)]) hO dX8_drop_18 rfl (by decide) rfl ?_
    refine tw_aload_n 1 hO dX8_drop_19 rfl rfl ?_
    obtain ⟨v20, e20, h⟩ := tw_bd h
    refine tw_getP hO dX8_drop_20 (t := 8) rfl 0 (by decide) rfl tw_w595 rfl e20 ?_
    refine tw_bipush (v := 10) hO dX8_drop_23 (by decide) ?_
    refine tw_bipush (v := 100) hO dX8_drop_25 (by decide) ?_
    refine tw_iload_n 2 hO dX8_drop_27 rfl rfl ?_
    refine tw_imul hO dX8_drop_28 ?_
    refine tw_iadd hO dX8_drop_29 ?_
    refine tw_iconst (v := 0) hO dX8_drop_30 (by decide) ?_
    obtain ⟨σ31, e31, h⟩ := tw_bd h
    refine tw_iast hO dX8_drop_31 e31 ?_
    refine tw_iload_n 0 hO dX8_drop_32 rfl rfl ?_
    exact tw_iret hO dX8_drop_33 h
  · replace h := tw_ifp cc h
    refine tw_iconst (v := (-1)) hO dX8_drop_7 (by decide) ?_
    exact tw_iret hO dX8_drop_8 h
theorem cfX8_isOpen : tw_CF yX8_isOpen cX8_isOpen 2 (some .boolean) 1 := ⟨tw_w758, tw_w56, by decide +kernel, by decide +kernel, by decide +kernel⟩
theorem kX8_isOpen {σ : tw_St} {a : Nat} {x1 : Int32} {q : Int32} (h : fX8_isOpen σ a x1 = some q) : tw_is σ 8 a = some () := by
  unfold fX8_isOpen at h
  obtain ⟨_, e1, -⟩ := tw_bd h
  exact e1
set_option maxRecDepth 100000 in
set_option maxHeartbeats 4000000 in
theorem mX8_isOpen (l : Launch) (G : tw_G) {σ : tw_St} {a : Nat} {x1 : Int32} {q : Int32} (h : fX8_isOpen σ a x1 = some q) : tw_M l G yX8_isOpen cX8_isOpen 2 (some .boolean) rmX8_isOpen 0 0 σ [.ref a, .int x1] (some (.int q)) σ := by
  unfold fX8_isOpen at h
  obtain ⟨_, -, h⟩ := tw_bd h
  refine tw_M.of (by decide +kernel) (Nat.le_of_ble_eq_true rfl) (fun p e s m args below meth c hnm hO => ?_)
  have hO : tw_O p s m args meth c cX8_isOpen RX8 2 (some .boolean) G := hO
  refine tw_aload_n 0 hO dX8_isOpen_0 rfl rfl ?_
  obtain ⟨v1, e1, h⟩ := tw_bd h
  refine tw_getP hO dX8_isOpen_1 (t := 8) rfl 18 (by decide) rfl tw_w613 rfl e1 ?_
  refine tw_iload_n 1 hO dX8_isOpen_4 rfl rfl ?_
  obtain ⟨v5, e5, h⟩ := tw_bd h
  refine tw_iald hO dX8_isOpen_5 e5 ?_
  refine tw_iconst (v := 0) hO dX8_isOpen_6 (by decide) ?_
  refine tw_aload_n 0 hO dX8_isOpen_7 rfl rfl ?_
  refine tw_iload_n 1 hO dX8_isOpen_8 rfl rfl ?_
  obtain ⟨v9, e9, h⟩ := tw_bd h
  refine tw_cVi hO (mX8_many l G e9) cfX8_many (t := 8) rfl (kX8_many e9) tw_w739 tw_w741 tw_w30 rfl rfl rfl rfl ⟨(Nat.le_of_ble_eq_true rfl), (Nat.le_of_ble_eq_true rfl)⟩ (Nat.le_of_ble_eq_true rfl) ⟨(Nat.le_of_ble_eq_true rfl), (Nat.le_of_ble_eq_true rfl)⟩ dX8_isOpen_9 ?_
  refine tw_iconst (v := 1) hO dX8_isOpen_12 (by decide) ?_
  refine tw_isub hO dX8_isOpen_13 ?_
  obtain ⟨v14, e14, h⟩ := tw_bd h
  refine tw_cSi hO (mX8_in l G e14) cfX8_in tw_w672 tw_w673 rfl rfl rfl rfl ⟨(Nat.le_of_ble_eq_true rfl), (Nat.le_of_ble_eq_true rfl)⟩ (Nat.le_of_ble_eq_true rfl) ⟨(Nat.le_of_ble_eq_true rfl), (Nat.le_of_ble_eq_true rfl)⟩ dX8_isOpen_14 ?_
  refine tw_if_eq (tgt := 35) hO dX8_isOpen_17 (by decide) (fun cc => ?_) (fun cc => ?_)
  · replace h := tw_ifp cc h
    refine tw_iconst (v := 0) hO dX8_isOpen_35 (by decide) ?_
    exact tw_zretR hO rfl dX8_isOpen_36 h
  · replace h := tw_ifn cc h
    refine tw_aload_n 0 hO dX8_isOpen_20 rfl rfl ?_
    obtain ⟨v21, e21, h⟩ := tw_bd h
    refine tw_getP hO dX8_isOpen_21 (t := 8) rfl 17 (by decide) rfl tw_w612 rfl e21 ?_
    refine tw_iload_n 1 hO dX8_isOpen_24 rfl rfl ?_
    obtain ⟨v25, e25, h⟩ := tw_bd h
    refine tw_iald hO dX8_isOpen_25 e25 ?_
    refine tw_bipush (v := 100) hO dX8_isOpen_26 (by decide) ?_
    refine tw_icmp_ge (tgt := 35) hO dX8_isOpen_28 (by decide) (fun cc => ?_) (fun cc => ?_)
    · replace h := tw_ifp cc h
      refine tw_iconst (v := 0) hO dX8_isOpen_35 (by decide) ?_
      exact tw_zretR hO rfl dX8_isOpen_36 h
    · replace h := tw_ifn cc h
      refine tw_iconst (v := 1) hO dX8_isOpen_31 (by decide) ?_
      refine tw_goto (tgt := 36) hO dX8_isOpen_32 (by decide) ?_
      exact tw_zretR hO rfl dX8_isOpen_36 h
theorem cfX8_roomOf : tw_CF yX8_roomOf cX8_roomOf 1 (some .int) 1 := ⟨tw_w773, tw_w56, by decide +kernel, by decide +kernel, by decide +kernel⟩
set_option maxRecDepth 100000 in
set_option maxHeartbeats 4000000 in
theorem wX8_roomOf_b19 (hO : tw_O p s m args meth c cX8_roomOf RX8 1 (some .int) G) {σ : tw_St} {q : Int32} (h : fX8_roomOf_b19 σ = some q) : tw_X p l e rmX8_roomOf s m args below meth c 1 G σ 0 0 (tw_Q below args s G 0 0 (some (.int q)) σ) 19 [] [] := by
  unfold fX8_roomOf_b19 at h
  refine tw_iconst (v := 1) hO dX8_roomOf_19 (by decide) ?_
  refine tw_goto (tgt := 25) hO dX8_roomOf_20 (by decide) ?_
  exact tw_iretR hO dX8_roomOf_25 h
set_option maxRecDepth 100000 in
set_option maxHeartbeats 4000000 in
theorem mX8_roomOf (l : Launch) (G : tw_G) {σ : tw_St} {x0 : Int32} {q : Int32} (h : fX8_roomOf σ x0 = some q) : tw_M l G yX8_roomOf cX8_roomOf 1 (some .int) rmX8_roomOf 0 0 σ [.int x0] (some (.int q)) σ := by
  unfold fX8_roomOf at h
  refine tw_M.of (by decide +kernel) (Nat.le_of_ble_eq_true rfl) (fun p e s m args below meth c hnm hO => ?_)
  have hO : tw_O p s m args meth c cX8_roomOf RX8 1 (some .int) G := hO
  refine tw_iload_n 0 hO dX8_roomOf_0 rfl rfl ?_
  refine tw_iconst (v := 3) hO dX8_roomOf_1 (by decide) ?_
  refine tw_icmp_ne (tgt := 9) hO dX8_roomOf_2 (by decide) (fun cc => ?_) (fun cc => ?_)
  · replace h := tw_ifn cc h
    refine tw_iload_n 0 hO dX8_roomOf_9 rfl rfl ?_
    refine tw_iconst (v := 4) hO dX8_roomOf_10 (by decide) ?_
    refine tw_icmp_eq (tgt := 19) hO dX8_roomOf_11 (by decide) (fun cc => ?_) (fun cc => ?_)
    · replace h := tw_ifp cc h
      refine tw_sub [] rfl ?_
      exact wX8_roomOf_b19 hO h
    · replace h := tw_ifn cc h
      refine tw_iload_n 0 hO dX8_roomOf_14 rfl rfl ?_
      refine tw_iconst (v := 5) hO dX8_roomOf_15 (by decide) ?_
      refine tw_icmp_ne (tgt := 23) hO dX8_roomOf_16 (by decide) (fun cc => ?_) (fun cc => ?_)
      · replace h := tw_ifn cc h
        refine tw_bipush (v := (-6)) hO dX8_roomOf_23 (by decide) ?_
        exact tw_iretR hO dX8_roomOf_25 h
      · replace h := tw_ifp cc h
        refine tw_sub [] rfl ?_
        exact wX8_roomOf_b19 hO h
  · replace h := tw_ifp cc h
    refine tw_iconst (v := 0) hO dX8_roomOf_5 (by decide) ?_
    refine tw_goto (tgt := 25) hO dX8_roomOf_6 (by decide) ?_
    exact tw_iretR hO dX8_roomOf_25 h
theorem cfX8_isReady : tw_CF yX8_isReady cX8_isReady 7 (some .boolean) 2 := ⟨tw_w777, tw_w56, by decide +kernel, by decide +kernel, by decide +kernel⟩
theorem kX8_isReady {σ : tw_St} {a : Nat} {x1 : Int32} {x2 : Int32} {q : Int32} (h : fX8_isReady σ a x1 x2 = some q) : tw_is σ 8 a = some () := by
  unfold fX8_isReady at h
  obtain ⟨_, e1, -⟩ := tw_bd h
  exact e1
set_option maxRecDepth 100000 in
set_option maxHeartbeats 4000000 in
theorem wX8_isReady_b113 (hO : tw_O p s m args meth c cX8_isReady RX8 7 (some .boolean) G) {k62 : (tw_St → Nat → Int32 → Int32 → Int32 → Int32 → Option (Int32))} (hk62 : ∀ (σ : tw_St) (a0 : Nat) (x1 : Int32) (x2 : Int32) (x4 : Int32) (x5 : Int32) (q : Int32), k62 σ a0 x1 x2 x4 x5 = some q → tw_X p l e rmX8_isReady s m args below meth c 7 G σ 0 0 (tw_Q below args s G 0 0 (some (.int q)) σ) 62 [(0, .ref a0), (1, .int x1), (2, .int x2), (4, .int x4), (5, .int x5)] []) {σ : tw_St} {a0 : Nat} {x1 : Int32} {x2 : Int32} {x5 : Int32} {z0 : Int32} {q : Int32} (h : fX8_isReady_b113 k62 σ a0 x1 x2 x5 z0 = some q) : tw_X p l e rmX8_isReady s m args below meth c 7 G σ 0 0 (tw_Q below args s G 0 0 (some (.int q)) σ) 113 [(0, .ref a0), (1, .int x1), (2, .int x2), (5, .int x5)] [.int z0] := by
  unfold fX8_isReady_b113 at h
  refine tw_istore (lv' := [(4, .int z0), (0, .ref a0), (1, .int x1), (2, .int x2), (5, .int x5)]) hO dX8_isReady_113 (by decide) rfl ?_
  refine tw_iinc (q := 4) (v := (x5 + 1)) (lv' := [(5, .int (x5 + 1)), (4, .int z0), (0, .ref a0), (1, .int x1), (2, .int x2)]) hO dX8_isReady_115 rfl rfl (by decide) rfl ?_
  refine tw_goto (tgt := 62) hO dX8_isReady_118 (by decide) ?_
  refine tw_sub [2, 3, 4, 1, 0] rfl ?_
  exact hk62 _ _ _ _ _ _ _ h
set_option maxRecDepth 100000 in
set_option maxHeartbeats 4000000 in
theorem wX8_isReady_b112 (hO : tw_O p s m args meth c cX8_isReady RX8 7 (some .boolean) G) {k62 : (tw_St → Nat → Int32 → Int32 → Int32 → Int32 → Option (Int32))} (hk62 : ∀ (σ : tw_St) (a0 : Nat) (x1 : Int32) (x2 : Int32) (x4 : Int32) (x5 : Int32) (q : Int32), k62 σ a0 x1 x2 x4 x5 = some q → tw_X p l e rmX8_isReady s m args below meth c 7 G σ 0 0 (tw_Q below args s G 0 0 (some (.int q)) σ) 62 [(0, .ref a0), (1, .int x1), (2, .int x2), (4, .int x4), (5, .int x5)] []) {σ : tw_St} {a0 : Nat} {x1 : Int32} {x2 : Int32} {x5 : Int32} {q : Int32} (h : fX8_isReady_b112 k62 σ a0 x1 x2 x5 = some q) : tw_X p l e rmX8_isReady s m args below meth c 7 G σ 0 0 (tw_Q below args s G 0 0 (some (.int q)) σ) 112 [(0, .ref a0), (1, .int x1), (2, .int x2), (5, .int x5)] [] := by
  unfold fX8_isReady_b112 at h
  refine tw_iconst (v := 0) hO dX8_isReady_112 (by decide) ?_
  exact wX8_isReady_b113 hO hk62 h
set_option maxRecDepth 100000 in
set_option maxHeartbeats 4000000 in
theorem wX8_isReady_b108 (hO : tw_O p s m args meth c cX8_isReady RX8 7 (some .boolean) G) {k62 : (tw_St → Nat → Int32 → Int32 → Int32 → Int32 → Option (Int32))} (hk62 : ∀ (σ : tw_St) (a0 : Nat) (x1 : Int32) (x2 : Int32) (x4 : Int32) (x5 : Int32) (q : Int32), k62 σ a0 x1 x2 x4 x5 = some q → tw_X p l e rmX8_isReady s m args below meth c 7 G σ 0 0 (tw_Q below args s G 0 0 (some (.int q)) σ) 62 [(0, .ref a0), (1, .int x1), (2, .int x2), (4, .int x4), (5, .int x5)] []) {σ : tw_St} {a0 : Nat} {x1 : Int32} {x2 : Int32} {x5 : Int32} {q : Int32} (h : fX8_isReady_b108 k62 σ a0 x1 x2 x5 = some q) : tw_X p l e rmX8_isReady s m args below meth c 7 G σ 0 0 (tw_Q below args s G 0 0 (some (.int q)) σ) 108 [(0, .ref a0), (1, .int x1), (2, .int x2), (5, .int x5)] [] := by
  unfold fX8_isReady_b108 at h
  refine tw_iconst (v := 1) hO dX8_isReady_108 (by decide) ?_
  refine tw_goto (tgt := 113) hO dX8_isReady_109 (by decide) ?_
  exact wX8_isReady_b113 hO hk62 h
set_option maxRecDepth 100000 in
set_option maxHeartbeats 4000000 in
theorem wX8_isReady_h62 (hO : tw_O p s m args meth c cX8_isReady RX8 7 (some .boolean) G) {k62 : (tw_St → Nat → Int32 → Int32 → Int32 → Int32 → Option (Int32))} (hk62 : ∀ (σ : tw_St) (a0 : Nat) (x1 : Int32) (x2 : Int32) (x4 : Int32) (x5 : Int32) (q : Int32), k62 σ a0 x1 x2 x4 x5 = some q → tw_X p l e rmX8_isReady s m args below meth c 7 G σ 0 0 (tw_Q below args s G 0 0 (some (.int q)) σ) 62 [(0, .ref a0), (1, .int x1), (2, .int x2), (4, .int x4), (5, .int x5)] []) {σ : tw_St} {a0 : Nat} {x1 : Int32} {x2 : Int32} {x4 : Int32} {x5 : Int32} {q : Int32} (h : fX8_isReady_h62 k62 σ a0 x1 x2 x4 x5 = some q) : tw_X p l e rmX8_isReady s m args below meth c 7 G σ 0 0 (tw_Q below args s G 0 0 (some (.int q)) σ) 62 [(0, .ref a0), (1, .int x1), (2, .int x2), (4, .int x4), (5, .int x5)] [] := by
  unfold fX8_isReady_h62 at h
  refine tw_iload 4 hO dX8_isReady_62 rfl ?_
  refine tw_iconst (v := 4) hO dX8_isReady_64 (by decide) ?_
  refine tw_icmp_ge (tgt := 121) hO dX8_isReady_65 (by decide) (fun cc => ?_) (fun cc => ?_)
  · replace h := tw_ifp cc h
    refine tw_iload 3 hO dX8_isReady_121 rfl ?_
    obtain ⟨_, hz, h⟩ := tw_bd h
    exact tw_zretR hO (tw_bz_sp hz).2.1 dX8_isReady_123 h
  · replace h := tw_ifn cc h
    refine tw_aload_n 0 hO dX8_isReady_68 rfl rfl ?_
    refine tw_iload_n 1 hO dX8_isReady_69 rfl rfl ?_
    refine tw_aload_n 0 hO dX8_isReady_70 rfl rfl ?_
    obtain ⟨v71, e71, h⟩ := tw_bd h
    refine tw_getP hO dX8_isReady_71 (t := 8) rfl 18 (by decide) rfl tw_w613 rfl e71 ?_
    refine tw_iload_n 1 hO dX8_isReady_74 rfl rfl ?_
    obtain ⟨v75, e75, h⟩ := tw_bd h
    refine tw_iald hO dX8_isReady_75 e75 ?_
    refine tw_iload 4 hO dX8_isReady_76 rfl ?_
    obtain ⟨v78, e78, h⟩ := tw_bd h
    refine tw_cVi hO (mX8_of l G e78) cfX8_of (t := 8) rfl (kX8_of e78) tw_w767 tw_w769 tw_w36 rfl rfl rfl rfl ⟨(Nat.le_of_ble_eq_true rfl), (Nat.le_of_ble_eq_true rfl)⟩ (Nat.le_of_ble_eq_true rfl) ⟨(Nat.le_of_ble_eq_true rfl), (Nat.le_of_ble_eq_true rfl)⟩ dX8_isReady_78 ?_
    refine tw_istore (lv' := [(6, .int v78), (0, .ref a0), (1, .int x1), (2, .int x2), (4, .int x4), (5, .int x5)]) hO dX8_isReady_81 (by decide) rfl ?_
    refine tw_iload 4 hO dX8_isReady_83 rfl ?_
    refine tw_if_eq (tgt := 112) hO dX8_isReady_85 (by decide) (fun cc => ?_) (fun cc => ?_)
    · replace h := tw_ifp cc h
      refine tw_sub [1, 2, 3, 5] rfl ?_
      exact wX8_isReady_b112 hO hk62 h
    · replace h := tw_ifn cc h
      refine tw_iload 0 hO dX8_isReady_88 rfl ?_
      refine tw_if_lt (tgt := 108) hO dX8_isReady_90 (by decide) (fun cc => ?_) (fun cc => ?_)
      · replace h := tw_ifp cc h
        refine tw_sub [1, 2, 3, 5] rfl ?_
        exact wX8_isReady_b108 hO hk62 h
      · replace h := tw_ifn cc h
        refine tw_aload_n 1 hO dX8_isReady_93 rfl rfl ?_
        obtain ⟨v94, e94, h⟩ := tw_bd h
        refine tw_getP hO dX8_isReady_94 (t := 8) rfl 12 (by decide) rfl tw_w607 rfl e94 ?_
        refine tw_iconst (v := 4) hO dX8_isReady_97 (by decide) ?_
        refine tw_iload_n 2 hO dX8_isReady_98 rfl rfl ?_
        refine tw_imul hO dX8_isReady_99 ?_
        refine tw_iload 0 hO dX8_isReady_100 rfl ?_
        refine tw_iadd hO dX8_isReady_102 ?_
        obtain ⟨v103, e103, h⟩ := tw_bd h
        refine tw_iald hO dX8_isReady_103 e103 ?_
        refine tw_iload_n 3 hO dX8_isReady_104 rfl rfl ?_
        refine tw_icmp_gt (tgt := 112) hO dX8_isReady_105 (by decide) (fun cc => ?_) (fun cc => ?_)
        · replace h := tw_ifp cc h
          refine tw_sub [1, 2, 3, 5] rfl ?_
          exact wX8_isReady_b112 hO hk62 h
        · replace h := tw_ifn cc h
          refine tw_sub [1, 2, 3, 5] rfl ?_
          exact wX8_isReady_b108 hO hk62 h
set_option maxRecDepth 100000 in
set_option maxHeartbeats 4000000 in
theorem wX8_isReady_l62 (hO : tw_O p s m args meth c cX8_isReady RX8 7 (some .boolean) G) : ∀ (n : Nat) (σ : tw_St) (a0 : Nat) (x1 : Int32) (x2 : Int32) (x4 : Int32) (x5 : Int32) (q : Int32), fX8_isReady_l62 n σ a0 x1 x2 x4 x5 = some q → tw_X p l e rmX8_isReady s m args below meth c 7 G σ 0 0 (tw_Q below args s G 0 0 (some (.int q)) σ) 62 [(0, .ref a0), (1, .int x1), (2, .int x2), (4, .int x4), (5, .int x5)] [] := by
  intro n
  induction n with
  | zero => intro _ _ _ _ _ _ q h; cases (show (none : Option (Int32)) = some q from h)
  | succ n ih => intro _ _ _ _ _ _ q h; exact wX8_isReady_h62 hO ih h
set_option maxRecDepth 100000 in
set_option maxHeartbeats 4000000 in
theorem wX8_isReady_b57 (hO : tw_O p s m args meth c cX8_isReady RX8 7 (some .boolean) G) {σ : tw_St} {a0 : Nat} {x1 : Int32} {x2 : Int32} {z0 : Int32} {q : Int32} (h : fX8_isReady_b57 σ a0 x1 x2 z0 = some q) : tw_X p l e rmX8_isReady s m args below meth c 7 G σ 0 0 (tw_Q below args s G 0 0 (some (.int q)) σ) 57 [(0, .ref a0), (1, .int x1), (2, .int x2)] [.int z0] := by
  unfold fX8_isReady_b57 at h
  refine tw_istore (lv' := [(4, .int z0), (0, .ref a0), (1, .int x1), (2, .int x2)]) hO dX8_isReady_57 (by decide) rfl ?_
  refine tw_iconst (v := 1) hO dX8_isReady_59 (by decide) ?_
  refine tw_istore (lv' := [(5, .int 1), (4, .int z0), (0, .ref a0), (1, .int x1), (2, .int x2)]) hO dX8_isReady_60 (by decide) rfl ?_
  refine tw_sub [2, 3, 4, 1, 0] rfl ?_
  exact wX8_isReady_l62 hO _ _ _ _ _ _ _ _ h
set_option maxRecDepth 100000 in
set_option maxHeartbeats 4000000 in
theorem wX8_isReady_b52 (hO : tw_O p s m args meth c cX8_isReady RX8 7 (some .boolean) G) {σ : tw_St} {a0 : Nat} {x1 : Int32} {x2 : Int32} {q : Int32} (h : fX8_isReady_b52 σ a0 x1 x2 = some q) : tw_X p l e rmX8_isReady s m args below meth c 7 G σ 0 0 (tw_Q below args s G 0 0 (some (.int q)) σ) 52 [(0, .ref a0), (1, .int x1), (2, .int x2)] [] := by
  unfold fX8_isReady_b52 at h
  refine tw_iconst (v := 1) hO dX8_isReady_52 (by decide) ?_
  refine tw_goto (tgt := 57) hO dX8_isReady_53 (by decide) ?_
  exact wX8_isReady_b57 hO h
set_option maxRecDepth 100000 in
set_option maxHeartbeats 4000000 in
theorem mX8_isReady (l : Launch) (G : tw_G) {σ : tw_St} {a : Nat} {x1 : Int32} {x2 : Int32} {q : Int32} (h : fX8_isReady σ a x1 x2 = some q) : tw_M l G yX8_isReady cX8_isReady 7 (some .boolean) rmX8_isReady 0 0 σ [.ref a, .int x1, .int x2] (some (.int q)) σ := by
  unfold fX8_isReady at h
  obtain ⟨_, -, h⟩ := tw_bd h
  refine tw_M.of (by decide +kernel) (Nat.le_of_ble_eq_true rfl) (fun p e s m args below meth c hnm hO => ?_)
  have hO : tw_O p s m args meth c cX8_isReady RX8 7 (some .boolean) G := hO
  refine tw_aload_n 0 hO dX8_isReady_0 rfl rfl ?_
  obtain ⟨v1, e1, h⟩ := tw_bd h
  refine tw_getP hO dX8_isReady_1 (t := 8) rfl 17 (by decide) rfl tw_w612 rfl e1 ?_
  refine tw_iload_n 1 hO dX8_isReady_4 rfl rfl ?_
  obtain ⟨v5, e5, h⟩ := tw_bd h
  refine tw_iald hO dX8_isReady_5 e5 ?_
  refine tw_istore_n (lv' := [(3, .int v5), (0, .ref a), (1, .int x1), (2, .int x2)]) hO dX8_isReady_6 rfl (by decide) rfl ?_
  refine tw_iload_n 0 hO dX8_isReady_7 rfl rfl ?_
  refine tw_if_eq (tgt := 52) hO dX8_isReady_8 (by decide) (fun cc => ?_) (fun cc => ?_)
  · replace h := tw_ifp cc h
    refine tw_sub [1, 2, 3] rfl ?_
    exact wX8_isReady_b52 hO h
  · replace h := tw_ifn cc h
    refine tw_aload_n 1 hO dX8_isReady_11 rfl rfl ?_
    refine tw_iload_n 2 hO dX8_isReady_12 rfl rfl ?_
    refine tw_aload_n 1 hO dX8_isReady_13 rfl rfl ?_
    obtain ⟨v14, e14, h⟩ := tw_bd h
    refine tw_getP hO dX8_isReady_14 (t := 8) rfl 14 (by decide) rfl tw_w609 rfl e14 ?_
    refine tw_bipush (v := 100) hO dX8_isReady_17 (by decide) ?_
    refine tw_iload_n 2 hO dX8_isReady_19 rfl rfl ?_
    refine tw_imul hO dX8_isReady_20 ?_
    refine tw_iload_n 0 hO dX8_isReady_21 rfl rfl ?_
    refine tw_iadd hO dX8_isReady_22 ?_
    refine tw_iconst (v := 1) hO dX8_isReady_23 (by decide) ?_
    refine tw_isub hO dX8_isReady_24 ?_
    obtain ⟨v25, e25, h⟩ := tw_bd h
    refine tw_iald hO dX8_isReady_25 e25 ?_
    refine tw_iconst (v := 0) hO dX8_isReady_26 (by decide) ?_
    obtain ⟨v27, e27, h⟩ := tw_bd h
    refine tw_cVi hO (mX8_of l G e27) cfX8_of (t := 8) rfl (kX8_of e27) tw_w767 tw_w769 tw_w36 rfl rfl rfl rfl ⟨(Nat.le_of_ble_eq_true rfl), (Nat.le_of_ble_eq_true rfl)⟩ (Nat.le_of_ble_eq_true rfl) ⟨(Nat.le_of_ble_eq_true rfl), (Nat.le_of_ble_eq_true rfl)⟩ dX8_isReady_27 ?_
    refine tw_bipush (v := 6) hO dX8_isReady_30 (by decide) ?_
    refine tw_icmp_ne (tgt := 52) hO dX8_isReady_32 (by decide) (fun cc => ?_) (fun cc => ?_)
    · replace h := tw_ifn cc h
      refine tw_sub [1, 2, 3] rfl ?_
      exact wX8_isReady_b52 hO h
    · replace h := tw_ifp cc h
      refine tw_aload_n 1 hO dX8_isReady_35 rfl rfl ?_
      obtain ⟨v36, e36, h⟩ := tw_bd h
      refine tw_getP hO dX8_isReady_36 (t := 8) rfl 15 (by decide) rfl tw_w610 rfl e36 ?_
      refine tw_bipush (v := 100) hO dX8_isReady_39 (by decide) ?_
      refine tw_iload_n 2 hO dX8_isReady_41 rfl rfl ?_
      refine tw_imul hO dX8_isReady_42 ?_
      refine tw_iload_n 0 hO dX8_isReady_43 rfl rfl ?_
      refine tw_iadd hO dX8_isReady_44 ?_
      refine tw_iconst (v := 1) hO dX8_isReady_45 (by decide) ?_
      refine tw_isub hO dX8_isReady_46 ?_
      obtain ⟨v47, e47, h⟩ := tw_bd h
      refine tw_iald hO dX8_isReady_47 e47 ?_
      refine tw_iload_n 3 hO dX8_isReady_48 rfl rfl ?_
      refine tw_icmp_gt (tgt := 56) hO dX8_isReady_49 (by decide) (fun cc => ?_) (fun cc => ?_)
      · replace h := tw_ifp cc h
        refine tw_iconst (v := 0) hO dX8_isReady_56 (by decide) ?_
        refine tw_sub [1, 2, 3] rfl ?_
        exact wX8_isReady_b57 hO h
      · replace h := tw_ifn cc h
        refine tw_sub [1, 2, 3] rfl ?_
        exact wX8_isReady_b52 hO h
theorem cfX8_whyNot : tw_CF yX8_whyNot cX8_whyNot 5 (some .int) 3 := ⟨tw_w766, tw_w56, by decide +kernel, by decide +kernel, by decide +kernel⟩
theorem kX8_whyNot {σ : tw_St} {a : Nat} {x1 : Int32} {x2 : Int32} {x3 : Int32} {q : Int32} (h : fX8_whyNot σ a x1 x2 x3 = some q) : tw_is σ 8 a = some () := by
  unfold fX8_whyNot at h
  obtain ⟨_, e1, -⟩ := tw_bd h
  exact e1
set_option maxRecDepth 100000 in
set_option maxHeartbeats 4000000 in
theorem mX8_whyNot (l : Launch) (G : tw_G) {σ : tw_St} {a : Nat} {x1 : Int32} {x2 : Int32} {x3 : Int32} {q : Int32} (h : fX8_whyNot σ a x1 x2 x3 = some q) : tw_M l G yX8_whyNot cX8_whyNot 5 (some .int) rmX8_whyNot 0 0 σ [.ref a, .int x1, .int x2, .int x3] (some (.int q)) σ := by
  unfold fX8_whyNot at h
  obtain ⟨_, -, h⟩ := tw_bd h
  refine tw_M.of (by decide +kernel) (Nat.le_of_ble_eq_true rfl) (fun p e s m args below meth c hnm hO => ?_)
  have hO : tw_O p s m args meth c cX8_whyNot RX8 5 (some .int) G := hO
  refine tw_aload_n 0 hO dX8_whyNot_0 rfl rfl ?_
  refine tw_iload_n 1 hO dX8_whyNot_1 rfl rfl ?_
  refine tw_aload_n 0 hO dX8_whyNot_2 rfl rfl ?_
  obtain ⟨v3, e3, h⟩ := tw_bd h
  refine tw_getP hO dX8_whyNot_3 (t := 8) rfl 18 (by decide) rfl tw_w613 rfl e3 ?_
  refine tw_iload_n 1 hO dX8_whyNot_6 rfl rfl ?_
  obtain ⟨v7, e7, h⟩ := tw_bd h
  refine tw_iald hO dX8_whyNot_7 e7 ?_
  refine tw_iconst (v := 0) hO dX8_whyNot_8 (by decide) ?_
  obtain ⟨v9, e9, h⟩ := tw_bd h
  refine tw_cVi hO (mX8_of l G e9) cfX8_of (t := 8) rfl (kX8_of e9) tw_w767 tw_w769 tw_w36 rfl rfl rfl rfl ⟨(Nat.le_of_ble_eq_true rfl), (Nat.le_of_ble_eq_true rfl)⟩ (Nat.le_of_ble_eq_true rfl) ⟨(Nat.le_of_ble_eq_true rfl), (Nat.le_of_ble_eq_true rfl)⟩ dX8_whyNot_9 ?_
  obtain ⟨v12, e12, h⟩ := tw_bd h
  refine tw_cSi hO (mX8_roomOf l G e12) cfX8_roomOf tw_w771 tw_w772 rfl rfl rfl rfl ⟨(Nat.le_of_ble_eq_true rfl), (Nat.le_of_ble_eq_true rfl)⟩ (Nat.le_of_ble_eq_true rfl) ⟨(Nat.le_of_ble_eq_true rfl), (Nat.le_of_ble_eq_true rfl)⟩ dX8_whyNot_12 ?_
  refine tw_istore (lv' := [(4, .int v12), (0, .ref a), (1, .int x1), (2, .int x2), (3, .int x3)]) hO dX8_whyNot_15 (by decide) rfl ?_
  refine tw_aload_n 1 hO dX8_whyNot_17 rfl rfl ?_
  refine tw_iload_n 2 hO dX8_whyNot_18 rfl rfl ?_
  refine tw_iload_n 3 hO dX8_whyNot_19 rfl rfl ?_
  obtain ⟨v20, e20, h⟩ := tw_bd h
  refine tw_cVi hO (mX8_isReady l G e20) cfX8_isReady (t := 8) rfl (kX8_isReady e20) tw_w774 tw_w776 tw_w37 rfl rfl rfl rfl ⟨(Nat.le_of_ble_eq_true rfl), (Nat.le_of_ble_eq_true rfl)⟩ (Nat.le_of_ble_eq_true rfl) ⟨(Nat.le_of_ble_eq_true rfl), (Nat.le_of_ble_eq_true rfl)⟩ dX8_whyNot_20 ?_
  refine tw_if_ne (tgt := 28) hO dX8_whyNot_23 (by decide) (fun cc => ?_) (fun cc => ?_)
  · replace h := tw_ifn cc h
    refine tw_iload 0 hO dX8_whyNot_28 rfl ?_
    refine tw_if_lt (tgt := 67) hO dX8_whyNot_30 (by decide) (fun cc => ?_) (fun cc => ?_)
    · replace h := tw_ifp cc h
      refine tw_iconst (v := 0) hO dX8_whyNot_67 (by decide) ?_
      exact tw_iretR hO dX8_whyNot_68 h
    · replace h := tw_ifn cc h
      refine tw_iload 0 hO dX8_whyNot_33 rfl ?_
      refine tw_iload_n 4 hO dX8_whyNot_35 rfl rfl ?_
      refine tw_icmp_eq (tgt := 67) hO dX8_whyNot_36 (by decide) (fun cc => ?_) (fun cc => ?_)
      · replace h := tw_ifp cc h
        refine tw_iconst (v := 0) hO dX8_whyNot_67 (by decide) ?_
        exact tw_iretR hO dX8_whyNot_68 h
      · replace h := tw_ifn cc h
        refine tw_aload_n 1 hO dX8_whyNot_39 rfl rfl ?_
        obtain ⟨v40, e40, h⟩ := tw_bd h
        refine tw_getP hO dX8_whyNot_40 (t := 8) rfl 21 (by decide) rfl tw_w616 rfl e40 ?_
        refine tw_iload 0 hO dX8_whyNot_43 rfl ?_
        obtain ⟨v45, e45, h⟩ := tw_bd h
        refine tw_iald hO dX8_whyNot_45 e45 ?_
        refine tw_iload_n 3 hO dX8_whyNot_46 rfl rfl ?_
        refine tw_icmp_le (tgt := 67) hO dX8_whyNot_47 (by decide) (fun cc => ?_) (fun cc => ?_)
        · replace h := tw_ifp cc h
          refine tw_iconst (v := 0) hO dX8_whyNot_67 (by decide) ?_
          exact tw_iretR hO dX8_whyNot_68 h
        · replace h := tw_ifn cc h
          refine tw_aload_n 1 hO dX8_whyNot_50 rfl rfl ?_
          obtain ⟨v51, e51, h⟩ := tw_bd h
          refine tw_getP hO dX8_whyNot_51 (t := 8) rfl 22 (by decide) rfl tw_w617 rfl e51 ?_
          refine tw_iload 0 hO dX8_whyNot_54 rfl ?_
          obtain ⟨v56, e56, h⟩ := tw_bd h
          refine tw_iald hO dX8_whyNot_56 e56 ?_
          refine tw_iload_n 2 hO dX8_whyNot_57 rfl rfl ?_
          refine tw_icmp_ne (tgt := 65) hO dX8_whyNot_58 (by decide) (fun cc => ?_) (fun cc => ?_)
          · replace h := tw_ifn cc h
            refine tw_iconst (v := 3) hO dX8_whyNot_65 (by decide) ?_
            exact tw_iretR hO dX8_whyNot_66 h
          · replace h := tw_ifp cc h
            refine tw_iconst (v := 2) hO dX8_whyNot_61 (by decide) ?_
            refine tw_goto (tgt := 66) hO dX8_whyNot_62 (by decide) ?_
            exact tw_iretR hO dX8_whyNot_66 h
  · replace h := tw_ifp cc h
    refine tw_iconst (v := 1) hO dX8_whyNot_26 (by decide) ?_
    exact tw_iretR hO dX8_whyNot_27 h
theorem cfX8_latest : tw_CF yX8_latest cX8_latest 2 (some .int) 1 := ⟨tw_w781, tw_w56, by decide +kernel, by decide +kernel, by decide +kernel⟩
theorem kX8_latest {σ : tw_St} {a : Nat} {x1 : Int32} {q : Int32} (h : fX8_latest σ a x1 = some q) : tw_is σ 8 a = some () := by
  unfold fX8_latest at h
  obtain ⟨_, e1, -⟩ := tw_bd h
  exact e1
set_option maxRecDepth 100000 in
set_option maxHeartbeats 4000000 in
theorem mX8_latest (l : Launch) (G : tw_G) {σ : tw_St} {a : Nat} {x1 : Int32} {q : Int32} (h : fX8_latest σ a x1 = some q) : tw_M l G yX8_latest cX8_latest 2 (some .int) rmX8_latest 0 0 σ [.ref a, .int x1] (some (.int q)) σ := by
  unfold fX8_latest at h
  obtain ⟨_, -, h⟩ := tw_bd h
  refine tw_M.of (by decide +kernel) (Nat.le_of_ble_eq_true rfl) (fun p e s m args below meth c hnm hO => ?_)
  have hO : tw_O p s m args meth c cX8_latest RX8 2 (some .int) G := hO
  refine tw_aload_n 0 hO dX8_latest_0 rfl rfl ?_
  obtain ⟨v1, e1, h⟩ := tw_bd h
  refine tw_getP hO dX8_latest_1 (t := 8) rfl 17 (by decide) rfl tw_w612 rfl e1 ?_
  refine tw_iload_n 1 hO dX8_latest_4 rfl rfl ?_
  obtain ⟨v5, e5, h⟩ := tw_bd h
  refine tw_iald hO dX8_latest_5 e5 ?_
  refine tw_if_ne (tgt := 13) hO dX8_latest_6 (by decide) (fun cc => ?_) (fun cc => ?_)
  · replace h := tw_ifn cc h
    refine tw_aload_n 0 hO dX8_latest_13 rfl rfl ?_
    obtain ⟨v14, e14, h⟩ := tw_bd h
    refine tw_getP hO dX8_latest_14 (t := 8) rfl 13 (by decide) rfl tw_w608 rfl e14 ?_
    refine tw_bipush (v := 100) hO dX8_latest_17 (by decide) ?_
    refine tw_iload_n 1 hO dX8_latest_19 rfl rfl ?_
    refine tw_imul hO dX8_latest_20 ?_
    refine tw_aload_n 0 hO dX8_latest_21 rfl rfl ?_
    obtain ⟨v22, e22, h⟩ := tw_bd h
    refine tw_getP hO dX8_latest_22 (t := 8) rfl 17 (by decide) rfl tw_w612 rfl e22 ?_
    refine tw_iload_n 1 hO dX8_latest_25 rfl rfl ?_
    obtain ⟨v26, e26, h⟩ := tw_bd h
    refine tw_iald hO dX8_latest_26 e26 ?_
    refine tw_iadd hO dX8_latest_27 ?_
    refine tw_iconst (v := 1) hO dX8_latest_28 (by decide) ?_
    refine tw_isub hO dX8_latest_29 ?_
    obtain ⟨v30, e30, h⟩ := tw_bd h
    refine tw_iald hO dX8_latest_30 e30 ?_
    exact tw_iretR hO dX8_latest_31 h
  · replace h := tw_ifp cc h
    refine tw_iconst (v := (-1)) hO dX8_latest_9 (by decide) ?_
    refine tw_goto (tgt := 31) hO dX8_latest_10 (by decide) ?_
    exact tw_iretR hO dX8_latest_31 h
theorem cfX8_starter : tw_CF yX8_starter cX8_starter 8 (some .int) 3 := ⟨tw_w762, tw_w56, by decide +kernel, by decide +kernel, by decide +kernel⟩
theorem kX8_starter {σ : tw_St} {a : Nat} {x1 : Int32} {x2 : Int32} {x3 : Int32} {q : Int32} (h : fX8_starter σ a x1 x2 x3 = some q) : tw_is σ 8 a = some () := by
  unfold fX8_starter at h
  obtain ⟨_, e1, -⟩ := tw_bd h
  exact e1
set_option maxRecDepth 100000 in
set_option maxHeartbeats 4000000 in
theorem wX8_starter_b103 (hO : tw_O p s m args meth c cX8_starter RX8 8 (some .int) G) {σ : tw_St} {x2 : Int32} {x4 : Int32} {x5 : Int32} {x6 : Int32} {x7 : Int32} {q : Int32} (h : fX8_starter_b103 σ x2 x4 x5 x6 x7 = some q) : tw_X p l e rmX8_starter s m args below meth c 8 G σ 0 0 (tw_Q below args s G 0 0 (some (.int q)) σ) 103 [(2, .int x2), (4, .int x4), (5, .int x5), (6, .int x6), (7, .int x7)] [] := by
  unfold fX8_starter_b103 at h
  refine tw_iload 3 hO dX8_starter_103 rfl ?_
  refine tw_if_eq (tgt := 113) hO dX8_starter_105 (by decide) (fun cc => ?_) (fun cc => ?_)
  · replace h := tw_ifp cc h
    refine tw_iload_n 0 hO dX8_starter_113 rfl rfl ?_
    refine tw_if_le (tgt := 127) hO dX8_starter_114 (by decide) (fun cc => ?_) (fun cc => ?_)
    · replace h := tw_ifp cc h
      refine tw_bipush (v := (-6)) hO dX8_starter_127 (by decide) ?_
      exact tw_iretR hO dX8_starter_129 h
    · replace h := tw_ifn cc h
      refine tw_iload 4 hO dX8_starter_117 rfl ?_
      refine tw_if_eq (tgt := 127) hO dX8_starter_119 (by decide) (fun cc => ?_) (fun cc => ?_)
      · replace h := tw_ifp cc h
        refine tw_bipush (v := (-6)) hO dX8_starter_127 (by decide) ?_
        exact tw_iretR hO dX8_starter_129 h
      · replace h := tw_ifn cc h
        refine tw_iload 2 hO dX8_starter_122 rfl ?_
        refine tw_goto (tgt := 129) hO dX8_starter_124 (by decide) ?_
        exact tw_iretR hO dX8_starter_129 h
  · replace h := tw_ifn cc h
    refine tw_iload 1 hO dX8_starter_108 rfl ?_
    refine tw_goto (tgt := 129) hO dX8_starter_110 (by decide) ?_
    exact tw_iretR hO dX8_starter_129 h
set_option maxRecDepth 100000 in
set_option maxHeartbeats 4000000 in
theorem wX8_starter_b63 (hO : tw_O p s m args meth c cX8_starter RX8 8 (some .int) G) {σ : tw_St} {a0 : Nat} {x2 : Int32} {x4 : Int32} {x5 : Int32} {x6 : Int32} {z0 : Int32} {q : Int32} (h : fX8_starter_b63 σ a0 x2 x4 x5 x6 z0 = some q) : tw_X p l e rmX8_starter s m args below meth c 8 G σ 0 0 (tw_Q below args s G 0 0 (some (.int q)) σ) 63 [(0, .ref a0), (2, .int x2), (4, .int x4), (5, .int x5), (6, .int x6)] [.int z0] := by
  unfold fX8_starter_b63 at h
  refine tw_istore (lv' := [(7, .int z0), (0, .ref a0), (2, .int x2), (4, .int x4), (5, .int x5), (6, .int x6)]) hO dX8_starter_63 (by decide) rfl ?_
  refine tw_iload_n 2 hO dX8_starter_65 rfl rfl ?_
  refine tw_iconst (v := 2) hO dX8_starter_66 (by decide) ?_
  refine tw_icmp_ne (tgt := 103) hO dX8_starter_67 (by decide) (fun cc => ?_) (fun cc => ?_)
  · replace h := tw_ifn cc h
    refine tw_sub [2, 3, 4, 5, 0] rfl ?_
    exact wX8_starter_b103 hO h
  · replace h := tw_ifp cc h
    refine tw_iload 5 hO dX8_starter_70 rfl ?_
    refine tw_if_eq (tgt := 103) hO dX8_starter_72 (by decide) (fun cc => ?_) (fun cc => ?_)
    · replace h := tw_ifp cc h
      refine tw_sub [2, 3, 4, 5, 0] rfl ?_
      exact wX8_starter_b103 hO h
    · replace h := tw_ifn cc h
      refine tw_iload 0 hO dX8_starter_75 rfl ?_
      refine tw_if_eq (tgt := 103) hO dX8_starter_77 (by decide) (fun cc => ?_) (fun cc => ?_)
      · replace h := tw_ifp cc h
        refine tw_sub [2, 3, 4, 5, 0] rfl ?_
        exact wX8_starter_b103 hO h
      · replace h := tw_ifn cc h
        refine tw_aload_n 1 hO dX8_starter_80 rfl rfl ?_
        refine tw_iload 4 hO dX8_starter_81 rfl ?_
        obtain ⟨v83, e83, h⟩ := tw_bd h
        refine tw_cVi hO (mX8_latest l G e83) cfX8_latest (t := 8) rfl (kX8_latest e83) tw_w778 tw_w780 tw_w38 rfl rfl rfl rfl ⟨(Nat.le_of_ble_eq_true rfl), (Nat.le_of_ble_eq_true rfl)⟩ (Nat.le_of_ble_eq_true rfl) ⟨(Nat.le_of_ble_eq_true rfl), (Nat.le_of_ble_eq_true rfl)⟩ dX8_starter_83 ?_
        refine tw_aload_n 1 hO dX8_starter_86 rfl rfl ?_
        refine tw_iload 3 hO dX8_starter_87 rfl ?_
        obtain ⟨v89, e89, h⟩ := tw_bd h
        refine tw_cVi hO (mX8_latest l G e89) cfX8_latest (t := 8) rfl (kX8_latest e89) tw_w778 tw_w780 tw_w38 rfl rfl rfl rfl ⟨(Nat.le_of_ble_eq_true rfl), (Nat.le_of_ble_eq_true rfl)⟩ (Nat.le_of_ble_eq_true rfl) ⟨(Nat.le_of_ble_eq_true rfl), (Nat.le_of_ble_eq_true rfl)⟩ dX8_starter_89 ?_
        refine tw_icmp_ge (tgt := 100) hO dX8_starter_92 (by decide) (fun cc => ?_) (fun cc => ?_)
        · replace h := tw_ifp cc h
          refine tw_iload 3 hO dX8_starter_100 rfl ?_
          exact tw_iretR hO dX8_starter_102 h
        · replace h := tw_ifn cc h
          refine tw_iload 4 hO dX8_starter_95 rfl ?_
          refine tw_goto (tgt := 102) hO dX8_starter_97 (by decide) ?_
          exact tw_iretR hO dX8_starter_102 h
set_option maxRecDepth 100000 in
set_option maxHeartbeats 4000000 in
theorem wX8_starter_b62 (hO : tw_O p s m args meth c cX8_starter RX8 8 (some .int) G) {σ : tw_St} {a0 : Nat} {x2 : Int32} {x4 : Int32} {x5 : Int32} {x6 : Int32} {q : Int32} (h : fX8_starter_b62 σ a0 x2 x4 x5 x6 = some q) : tw_X p l e rmX8_starter s m args below meth c 8 G σ 0 0 (tw_Q below args s G 0 0 (some (.int q)) σ) 62 [(0, .ref a0), (2, .int x2), (4, .int x4), (5, .int x5), (6, .int x6)] [] := by
  unfold fX8_starter_b62 at h
  refine tw_iconst (v := 0) hO dX8_starter_62 (by decide) ?_
  exact wX8_starter_b63 hO h
set_option maxRecDepth 100000 in
set_option maxHeartbeats 4000000 in
theorem wX8_starter_b36 (hO : tw_O p s m args meth c cX8_starter RX8 8 (some .int) G) {σ : tw_St} {a0 : Nat} {x1 : Int32} {x2 : Int32} {x3 : Int32} {x4 : Int32} {x5 : Int32} {z0 : Int32} {q : Int32} (h : fX8_starter_b36 σ a0 x1 x2 x3 x4 x5 z0 = some q) : tw_X p l e rmX8_starter s m args below meth c 8 G σ 0 0 (tw_Q below args s G 0 0 (some (.int q)) σ) 36 [(0, .ref a0), (1, .int x1), (2, .int x2), (3, .int x3), (4, .int x4), (5, .int x5)] [.int z0] := by
  unfold fX8_starter_b36 at h
  refine tw_istore (lv' := [(6, .int z0), (0, .ref a0), (1, .int x1), (2, .int x2), (3, .int x3), (4, .int x4), (5, .int x5)]) hO dX8_starter_36 (by decide) rfl ?_
  refine tw_aload_n 1 hO dX8_starter_38 rfl rfl ?_
  refine tw_iload 6 hO dX8_starter_39 rfl ?_
  obtain ⟨v41, e41, h⟩ := tw_bd h
  refine tw_cVi hO (mX8_isOpen l G e41) cfX8_isOpen (t := 8) rfl (kX8_isOpen e41) tw_w755 tw_w757 tw_w33 rfl rfl rfl rfl ⟨(Nat.le_of_ble_eq_true rfl), (Nat.le_of_ble_eq_true rfl)⟩ (Nat.le_of_ble_eq_true rfl) ⟨(Nat.le_of_ble_eq_true rfl), (Nat.le_of_ble_eq_true rfl)⟩ dX8_starter_41 ?_
  refine tw_if_eq (tgt := 62) hO dX8_starter_44 (by decide) (fun cc => ?_) (fun cc => ?_)
  · replace h := tw_ifp cc h
    refine tw_sub [1, 3, 5, 6, 0] rfl ?_
    exact wX8_starter_b62 hO h
  · replace h := tw_ifn cc h
    refine tw_aload_n 1 hO dX8_starter_47 rfl rfl ?_
    refine tw_iload 6 hO dX8_starter_48 rfl ?_
    refine tw_iload_n 2 hO dX8_starter_50 rfl rfl ?_
    refine tw_iload_n 4 hO dX8_starter_51 rfl rfl ?_
    obtain ⟨v52, e52, h⟩ := tw_bd h
    refine tw_cVi hO (mX8_whyNot l G e52) cfX8_whyNot (t := 8) rfl (kX8_whyNot e52) tw_w763 tw_w765 tw_w35 rfl rfl rfl rfl ⟨(Nat.le_of_ble_eq_true rfl), (Nat.le_of_ble_eq_true rfl)⟩ (Nat.le_of_ble_eq_true rfl) ⟨(Nat.le_of_ble_eq_true rfl), (Nat.le_of_ble_eq_true rfl)⟩ dX8_starter_52 ?_
    refine tw_if_ne (tgt := 62) hO dX8_starter_55 (by decide) (fun cc => ?_) (fun cc => ?_)
    · replace h := tw_ifn cc h
      refine tw_sub [1, 3, 5, 6, 0] rfl ?_
      exact wX8_starter_b62 hO h
    · replace h := tw_ifp cc h
      refine tw_iconst (v := 1) hO dX8_starter_58 (by decide) ?_
      refine tw_goto (tgt := 63) hO dX8_starter_59 (by decide) ?_
      refine tw_sub [1, 3, 5, 6, 0] rfl ?_
      exact wX8_starter_b63 hO h
set_option maxRecDepth 100000 in
set_option maxHeartbeats 4000000 in
theorem wX8_starter_b35 (hO : tw_O p s m args meth c cX8_starter RX8 8 (some .int) G) {σ : tw_St} {a0 : Nat} {x1 : Int32} {x2 : Int32} {x3 : Int32} {x4 : Int32} {x5 : Int32} {q : Int32} (h : fX8_starter_b35 σ a0 x1 x2 x3 x4 x5 = some q) : tw_X p l e rmX8_starter s m args below meth c 8 G σ 0 0 (tw_Q below args s G 0 0 (some (.int q)) σ) 35 [(0, .ref a0), (1, .int x1), (2, .int x2), (3, .int x3), (4, .int x4), (5, .int x5)] [] := by
  unfold fX8_starter_b35 at h
  refine tw_iconst (v := 0) hO dX8_starter_35 (by decide) ?_
  exact wX8_starter_b36 hO h
set_option maxRecDepth 100000 in
set_option maxHeartbeats 4000000 in
theorem mX8_starter (l : Launch) (G : tw_G) {σ : tw_St} {a : Nat} {x1 : Int32} {x2 : Int32} {x3 : Int32} {q : Int32} (h : fX8_starter σ a x1 x2 x3 = some q) : tw_M l G yX8_starter cX8_starter 8 (some .int) rmX8_starter 0 0 σ [.ref a, .int x1, .int x2, .int x3] (some (.int q)) σ := by
  unfold fX8_starter at h
  obtain ⟨_, -, h⟩ := tw_bd h
  refine tw_M.of (by decide +kernel) (Nat.le_of_ble_eq_true rfl) (fun p e s m args below meth c hnm hO => ?_)
  have hO : tw_O p s m args meth c cX8_starter RX8 8 (some .int) G := hO
  refine tw_iload_n 1 hO dX8_starter_0 rfl rfl ?_
  refine tw_iconst (v := 2) hO dX8_starter_1 (by decide) ?_
  refine tw_irem hO dX8_starter_2 (by decide) ?_
  refine tw_istore (lv' := [(4, .int (x1 - x1 / 2 * 2)), (0, .ref a), (1, .int x1), (2, .int x2), (3, .int x3)]) hO dX8_starter_3 (by decide) rfl ?_
  refine tw_iconst (v := 1) hO dX8_starter_5 (by decide) ?_
  refine tw_iload 0 hO dX8_starter_6 rfl ?_
  refine tw_isub hO dX8_starter_8 ?_
  refine tw_istore (lv' := [(5, .int (1 - (x1 - x1 / 2 * 2))), (4, .int (x1 - x1 / 2 * 2)), (0, .ref a), (1, .int x1), (2, .int x2), (3, .int x3)]) hO dX8_starter_9 (by decide) rfl ?_
  refine tw_aload_n 2 hO dX8_starter_11 rfl rfl ?_
  refine tw_iload 1 hO dX8_starter_12 rfl ?_
  obtain ⟨v14, e14, h⟩ := tw_bd h
  refine tw_cVi hO (mX8_isOpen l G e14) cfX8_isOpen (t := 8) rfl (kX8_isOpen e14) tw_w755 tw_w757 tw_w33 rfl rfl rfl rfl ⟨(Nat.le_of_ble_eq_true rfl), (Nat.le_of_ble_eq_true rfl)⟩ (Nat.le_of_ble_eq_true rfl) ⟨(Nat.le_of_ble_eq_true rfl), (Nat.le_of_ble_eq_true rfl)⟩ dX8_starter_14 ?_
  refine tw_if_eq (tgt := 35) hO dX8_starter_17 (by decide) (fun cc => ?_) (fun cc => ?_)
  · replace h := tw_ifp cc h
    refine tw_sub [2, 3, 4, 5, 1, 0] rfl ?_
    exact wX8_starter_b35 hO h
  · replace h := tw_ifn cc h
    refine tw_aload_n 2 hO dX8_starter_20 rfl rfl ?_
    refine tw_iload 1 hO dX8_starter_21 rfl ?_
    refine tw_iload_n 3 hO dX8_starter_23 rfl rfl ?_
    refine tw_iload_n 5 hO dX8_starter_24 rfl rfl ?_
    obtain ⟨v25, e25, h⟩ := tw_bd h
    refine tw_cVi hO (mX8_whyNot l G e25) cfX8_whyNot (t := 8) rfl (kX8_whyNot e25) tw_w763 tw_w765 tw_w35 rfl rfl rfl rfl ⟨(Nat.le_of_ble_eq_true rfl), (Nat.le_of_ble_eq_true rfl)⟩ (Nat.le_of_ble_eq_true rfl) ⟨(Nat.le_of_ble_eq_true rfl), (Nat.le_of_ble_eq_true rfl)⟩ dX8_starter_25 ?_
    refine tw_if_ne (tgt := 35) hO dX8_starter_28 (by decide) (fun cc => ?_) (fun cc => ?_)
    · replace h := tw_ifn cc h
      refine tw_sub [2, 3, 4, 5, 1, 0] rfl ?_
      exact wX8_starter_b35 hO h
    · replace h := tw_ifp cc h
      refine tw_iconst (v := 1) hO dX8_starter_31 (by decide) ?_
      refine tw_goto (tgt := 36) hO dX8_starter_32 (by decide) ?_
      refine tw_sub [2, 3, 4, 5, 1, 0] rfl ?_
      exact wX8_starter_b36 hO h
theorem cfX8_value : tw_CF yX8_value cX8_value 3 (some .int) 2 := ⟨tw_w793, tw_w56, by decide +kernel, by decide +kernel, by decide +kernel⟩
theorem kX8_value {σ : tw_St} {a : Nat} {x1 : Int32} {x2 : Int32} {q : Int32} (h : fX8_value σ a x1 x2 = some q) : tw_is σ 8 a = some () := by
  unfold fX8_value at h
  obtain ⟨_, e1, -⟩ := tw_bd h
  exact e1
set_option maxRecDepth 100000 in
set_option maxHeartbeats 4000000 in
theorem mX8_value (l : Launch) (G : tw_G) {σ : tw_St} {a : Nat} {x1 : Int32} {x2 : Int32} {q : Int32} (h : fX8_value σ a x1 x2 = some q) : tw_M l G yX8_value cX8_value 3 (some .int) rmX8_value 0 0 σ [.ref a, .int x1, .int x2] (some (.int q)) σ := by
  unfold fX8_value at h
  obtain ⟨_, -, h⟩ := tw_bd h
  refine tw_M.of (by decide +kernel) (Nat.le_of_ble_eq_true rfl) (fun p e s m args below meth c hnm hO => ?_)
  have hO : tw_O p s m args meth c cX8_value RX8 3 (some .int) G := hO
  refine tw_aload_n 0 hO dX8_value_0 rfl rfl ?_
  obtain ⟨v1, e1, h⟩ := tw_bd h
  refine tw_getP hO dX8_value_1 (t := 8) rfl 11 (by decide) rfl tw_w606 rfl e1 ?_
  refine tw_bipush (v := 12) hO dX8_value_4 (by decide) ?_
  refine tw_iload_n 1 hO dX8_value_6 rfl rfl ?_
  refine tw_imul hO dX8_value_7 ?_
  refine tw_iload_n 2 hO dX8_value_8 rfl rfl ?_
  refine tw_iadd hO dX8_value_9 ?_
  obtain ⟨v10, e10, h⟩ := tw_bd h
  refine tw_iald hO dX8_value_10 e10 ?_
  exact tw_iretR hO dX8_value_11 h
theorem cfX8_does : tw_CF yX8_does cX8_does 8 (some .int) 2 := ⟨tw_w789, tw_w56, by decide +kernel, by decide +kernel, by decide +kernel⟩
theorem kX8_does {σ : tw_St} {a : Nat} {x1 : Int32} {x2 : Int32} {q : Int32 × tw_St} (h : fX8_does σ a x1 x2 = some q) : tw_is σ 8 a = some () := by
  unfold fX8_does at h
  obtain ⟨_, e1, -⟩ := tw_bd h
  exact e1
set_option maxRecDepth 100000 in
set_option maxHeartbeats 4000000 in
theorem wX8_does_b275 (hO : tw_O p s m args meth c cX8_does RX8 8 (some .int) G) {σ : tw_St} {x2 : Int32} {q : Int32 × tw_St} (h : fX8_does_b275 σ x2 = some q) : tw_X p l e rmX8_does s m args below meth c 8 G σ 0 0 (tw_Q below args s G 0 0 (some (.int q.1)) q.2) 275 [(2, .int x2)] [] := by
  unfold fX8_does_b275 at h
  refine tw_iload_n 0 hO dX8_does_275 rfl rfl ?_
  refine tw_iconst (v := 1) hO dX8_does_276 (by decide) ?_
  refine tw_iadd hO dX8_does_277 ?_
  exact tw_iret hO dX8_does_278 h
set_option maxRecDepth 100000 in
set_option maxHeartbeats 4000000 in
theorem mX8_does (l : Launch) (G : tw_G) {σ : tw_St} {a : Nat} {x1 : Int32} {x2 : Int32} {q : Int32 × tw_St} (h : fX8_does σ a x1 x2 = some q) : tw_M l G yX8_does cX8_does 8 (some .int) rmX8_does 0 0 σ [.ref a, .int x1, .int x2] (some (.int q.1)) q.2 := by
  unfold fX8_does at h
  obtain ⟨_, -, h⟩ := tw_bd h
  refine tw_M.of (by decide +kernel) (Nat.le_of_ble_eq_true rfl) (fun p e s m args below meth c hnm hO => ?_)
  have hO : tw_O p s m args meth c cX8_does RX8 8 (some .int) G := hO
  refine tw_aload_n 0 hO dX8_does_0 rfl rfl ?_
  refine tw_iload_n 1 hO dX8_does_1 rfl rfl ?_
  refine tw_iload_n 2 hO dX8_does_2 rfl rfl ?_
  refine tw_iconst (v := 0) hO dX8_does_3 (by decide) ?_
  obtain ⟨v4, e4, h⟩ := tw_bd h
  refine tw_cVi hO (mX8_of l G e4) cfX8_of (t := 8) rfl (kX8_of e4) tw_w767 tw_w769 tw_w36 rfl rfl rfl rfl ⟨(Nat.le_of_ble_eq_true rfl), (Nat.le_of_ble_eq_true rfl)⟩ (Nat.le_of_ble_eq_true rfl) ⟨(Nat.le_of_ble_eq_true rfl), (Nat.le_of_ble_eq_true rfl)⟩ dX8_does_4 ?_
  refine tw_istore_n (lv' := [(3, .int v4), (0, .ref a), (1, .int x1), (2, .int x2)]) hO dX8_does_7 rfl (by decide) rfl ?_
  refine tw_aload_n 1 hO dX8_does_8 rfl rfl ?_
  refine tw_iload_n 2 hO dX8_does_9 rfl rfl ?_
  refine tw_iload_n 3 hO dX8_does_10 rfl rfl ?_
  refine tw_iconst (v := 1) hO dX8_does_11 (by decide) ?_
  obtain ⟨v12, e12, h⟩ := tw_bd h
  refine tw_cVi hO (mX8_of l G e12) cfX8_of (t := 8) rfl (kX8_of e12) tw_w767 tw_w769 tw_w36 rfl rfl rfl rfl ⟨(Nat.le_of_ble_eq_true rfl), (Nat.le_of_ble_eq_true rfl)⟩ (Nat.le_of_ble_eq_true rfl) ⟨(Nat.le_of_ble_eq_true rfl), (Nat.le_of_ble_eq_true rfl)⟩ dX8_does_12 ?_
  refine tw_istore (lv' := [(4, .int v12), (3, .int v4), (0, .ref a), (1, .int x1), (2, .int x2)]) hO dX8_does_15 (by decide) rfl ?_
  refine tw_aload_n 2 hO dX8_does_17 rfl rfl ?_
  refine tw_iload_n 3 hO dX8_does_18 rfl rfl ?_
  refine tw_iload_n 4 hO dX8_does_19 rfl rfl ?_
  refine tw_iconst (v := 2) hO dX8_does_20 (by decide) ?_
  obtain ⟨v21, e21, h⟩ := tw_bd h
  refine tw_cVi hO (mX8_of l G e21) cfX8_of (t := 8) rfl (kX8_of e21) tw_w767 tw_w769 tw_w36 rfl rfl rfl rfl ⟨(Nat.le_of_ble_eq_true rfl), (Nat.le_of_ble_eq_true rfl)⟩ (Nat.le_of_ble_eq_true rfl) ⟨(Nat.le_of_ble_eq_true rfl), (Nat.le_of_ble_eq_true rfl)⟩ dX8_does_21 ?_
  refine tw_istore (lv' := [(5, .int v21), (4, .int v12), (3, .int v4), (0, .ref a), (1, .int x1), (2, .int x2)]) hO dX8_does_24 (by decide) rfl ?_
  refine tw_aload_n 3 hO dX8_does_26 rfl rfl ?_
  refine tw_iload_n 4 hO dX8_does_27 rfl rfl ?_
  refine tw_iload_n 5 hO dX8_does_28 rfl rfl ?_
  refine tw_iconst (v := 3) hO dX8_does_29 (by decide) ?_
  obtain ⟨v30, e30, h⟩ := tw_bd h
  refine tw_cVi hO (mX8_of l G e30) cfX8_of (t := 8) rfl (kX8_of e30) tw_w767 tw_w769 tw_w36 rfl rfl rfl rfl ⟨(Nat.le_of_ble_eq_true rfl), (Nat.le_of_ble_eq_true rfl)⟩ (Nat.le_of_ble_eq_true rfl) ⟨(Nat.le_of_ble_eq_true rfl), (Nat.le_of_ble_eq_true rfl)⟩ dX8_does_30 ?_
  refine tw_istore (lv' := [(6, .int v30), (5, .int v21), (4, .int v12), (3, .int v4), (0, .ref a), (1, .int x1), (2, .int x2)]) hO dX8_does_33 (by decide) rfl ?_
  refine tw_bipush (v := 12) hO dX8_does_35 (by decide) ?_
  refine tw_iload_n 5 hO dX8_does_37 rfl rfl ?_
  refine tw_imul hO dX8_does_38 ?_
  refine tw_iload 2 hO dX8_does_39 rfl ?_
  refine tw_iadd hO dX8_does_41 ?_
  refine tw_istore (lv' := [(7, .int ((12 * x1) + v12)), (6, .int v30), (5, .int v21), (4, .int v12), (3, .int v4), (0, .ref a), (1, .int x1), (2, .int x2)]) hO dX8_does_42 (by decide) rfl ?_
  refine tw_iload_n 4 hO dX8_does_44 rfl rfl ?_
  by_cases s0 : v4 = 0
  · replace h := tw_ifp s0 h
    refine tw_tableIn (off := 39) (tgt := 84) hO dX8_does_45 (by rw [s0]; decide) (by rw [s0]; decide) (by rw [s0]; rfl) (by decide) ?_
    refine tw_aload_n 5 hO dX8_does_84 rfl rfl ?_
    obtain ⟨v85, e85, h⟩ := tw_bd h
    refine tw_getP hO dX8_does_85 (t := 8) rfl 11 (by decide) rfl tw_w606 rfl e85 ?_
    refine tw_iload 0 hO dX8_does_88 rfl ?_
    refine tw_aload_n 5 hO dX8_does_90 rfl rfl ?_
    refine tw_iload_n 6 hO dX8_does_91 rfl rfl ?_
    refine tw_iload_n 7 hO dX8_does_92 rfl rfl ?_
    refine tw_iconst (v := 4) hO dX8_does_93 (by decide) ?_
    obtain ⟨v94, e94, h⟩ := tw_bd h
    refine tw_cVi hO (mX8_of l G e94) cfX8_of (t := 8) rfl (kX8_of e94) tw_w767 tw_w769 tw_w36 rfl rfl rfl rfl ⟨(Nat.le_of_ble_eq_true rfl), (Nat.le_of_ble_eq_true rfl)⟩ (Nat.le_of_ble_eq_true rfl) ⟨(Nat.le_of_ble_eq_true rfl), (Nat.le_of_ble_eq_true rfl)⟩ dX8_does_94 ?_
    obtain ⟨σ97, e97, h⟩ := tw_bd h
    refine tw_iast hO dX8_does_97 e97 ?_
    refine tw_goto (tgt := 275) hO dX8_does_98 (by decide) ?_
    refine tw_sub [7] rfl ?_
    exact wX8_does_b275 hO h
  replace h := tw_ifn s0 h
  by_cases s1 : v4 = 1
  · replace h := tw_ifp s1 h
    refine tw_tableIn (off := 56) (tgt := 101) hO dX8_does_45 (by rw [s1]; decide) (by rw [s1]; decide) (by rw [s1]; rfl) (by decide) ?_
    refine tw_aload_n 5 hO dX8_does_101 rfl rfl ?_
    obtain ⟨v102, e102, h⟩ := tw_bd h
    refine tw_getP hO dX8_does_102 (t := 8) rfl 11 (by decide) rfl tw_w606 rfl e102 ?_
    refine tw_iload 0 hO dX8_does_105 rfl ?_
    refine tw_aload_n 5 hO dX8_does_107 rfl rfl ?_
    refine tw_iload_n 6 hO dX8_does_108 rfl rfl ?_
    refine tw_iload 2 hO dX8_does_109 rfl ?_
    obtain ⟨v111, e111, h⟩ := tw_bd h
    refine tw_cVi hO (mX8_value l G e111) cfX8_value (t := 8) rfl (kX8_value e111) tw_w790 tw_w792 tw_w41 rfl rfl rfl rfl ⟨(Nat.le_of_ble_eq_true rfl), (Nat.le_of_ble_eq_true rfl)⟩ (Nat.le_of_ble_eq_true rfl) ⟨(Nat.le_of_ble_eq_true rfl), (Nat.le_of_ble_eq_true rfl)⟩ dX8_does_111 ?_
    refine tw_aload_n 5 hO dX8_does_114 rfl rfl ?_
    refine tw_iload_n 6 hO dX8_does_115 rfl rfl ?_
    refine tw_iload 1 hO dX8_does_116 rfl ?_
    obtain ⟨v118, e118, h⟩ := tw_bd h
    refine tw_cVi hO (mX8_value l G e118) cfX8_value (t := 8) rfl (kX8_value e118) tw_w790 tw_w792 tw_w41 rfl rfl rfl rfl ⟨(Nat.le_of_ble_eq_true rfl), (Nat.le_of_ble_eq_true rfl)⟩ (Nat.le_of_ble_eq_true rfl) ⟨(Nat.le_of_ble_eq_true rfl), (Nat.le_of_ble_eq_true rfl)⟩ dX8_does_118 ?_
    refine tw_iadd hO dX8_does_121 ?_
    refine tw_sipush (v := 1000) hO dX8_does_122 (by decide) ?_
    refine tw_irem hO dX8_does_125 (by decide) ?_
    obtain ⟨σ126, e126, h⟩ := tw_bd h
    refine tw_iast hO dX8_does_126 e126 ?_
    refine tw_goto (tgt := 275) hO dX8_does_127 (by decide) ?_
    refine tw_sub [7] rfl ?_
    exact wX8_does_b275 hO h
  replace h := tw_ifn s1 h
  by_cases s2 : v4 = 2
  · replace h := tw_ifp s2 h
    refine tw_tableIn (off := 85) (tgt := 130) hO dX8_does_45 (by rw [s2]; decide) (by rw [s2]; decide) (by rw [s2]; rfl) (by decide) ?_
    refine tw_aload_n 5 hO dX8_does_130 rfl rfl ?_
    obtain ⟨v131, e131, h⟩ := tw_bd h
    refine tw_getP hO dX8_does_131 (t := 8) rfl 11 (by decide) rfl tw_w606 rfl e131 ?_
    refine tw_iload 0 hO dX8_does_134 rfl ?_
    refine tw_aload_n 5 hO dX8_does_136 rfl rfl ?_
    refine tw_iload_n 6 hO dX8_does_137 rfl rfl ?_
    refine tw_iload 2 hO dX8_does_138 rfl ?_
    obtain ⟨v140, e140, h⟩ := tw_bd h
    refine tw_cVi hO (mX8_value l G e140) cfX8_value (t := 8) rfl (kX8_value e140) tw_w790 tw_w792 tw_w41 rfl rfl rfl rfl ⟨(Nat.le_of_ble_eq_true rfl), (Nat.le_of_ble_eq_true rfl)⟩ (Nat.le_of_ble_eq_true rfl) ⟨(Nat.le_of_ble_eq_true rfl), (Nat.le_of_ble_eq_true rfl)⟩ dX8_does_140 ?_
    refine tw_aload_n 5 hO dX8_does_143 rfl rfl ?_
    refine tw_iload_n 6 hO dX8_does_144 rfl rfl ?_
    refine tw_iload 1 hO dX8_does_145 rfl ?_
    obtain ⟨v147, e147, h⟩ := tw_bd h
    refine tw_cVi hO (mX8_value l G e147) cfX8_value (t := 8) rfl (kX8_value e147) tw_w790 tw_w792 tw_w41 rfl rfl rfl rfl ⟨(Nat.le_of_ble_eq_true rfl), (Nat.le_of_ble_eq_true rfl)⟩ (Nat.le_of_ble_eq_true rfl) ⟨(Nat.le_of_ble_eq_true rfl), (Nat.le_of_ble_eq_true rfl)⟩ dX8_does_147 ?_
    refine tw_isub hO dX8_does_150 ?_
    refine tw_sipush (v := 1000) hO dX8_does_151 (by decide) ?_
    refine tw_iadd hO dX8_does_154 ?_
    refine tw_sipush (v := 1000) hO dX8_does_155 (by decide) ?_
    refine tw_irem hO dX8_does_158 (by decide) ?_
    obtain ⟨σ159, e159, h⟩ := tw_bd h
    refine tw_iast hO dX8_does_159 e159 ?_
    refine tw_goto (tgt := 275) hO dX8_does_160 (by decide) ?_
    refine tw_sub [7] rfl ?_
    exact wX8_does_b275 hO h
  replace h := tw_ifn s2 h
  by_cases s3 : v4 = 3
  · replace h := tw_ifp s3 h
    refine tw_tableIn (off := 118) (tgt := 163) hO dX8_does_45 (by rw [s3]; decide) (by rw [s3]; decide) (by rw [s3]; rfl) (by decide) ?_
    refine tw_aload_n 5 hO dX8_does_163 rfl rfl ?_
    obtain ⟨v164, e164, h⟩ := tw_bd h
    refine tw_getP hO dX8_does_164 (t := 8) rfl 11 (by decide) rfl tw_w606 rfl e164 ?_
    refine tw_iload 0 hO dX8_does_167 rfl ?_
    refine tw_aload_n 5 hO dX8_does_169 rfl rfl ?_
    refine tw_iload_n 6 hO dX8_does_170 rfl rfl ?_
    refine tw_iload 2 hO dX8_does_171 rfl ?_
    obtain ⟨v173, e173, h⟩ := tw_bd h
    refine tw_cVi hO (mX8_value l G e173) cfX8_value (t := 8) rfl (kX8_value e173) tw_w790 tw_w792 tw_w41 rfl rfl rfl rfl ⟨(Nat.le_of_ble_eq_true rfl), (Nat.le_of_ble_eq_true rfl)⟩ (Nat.le_of_ble_eq_true rfl) ⟨(Nat.le_of_ble_eq_true rfl), (Nat.le_of_ble_eq_true rfl)⟩ dX8_does_173 ?_
    refine tw_aload_n 5 hO dX8_does_176 rfl rfl ?_
    refine tw_iload_n 6 hO dX8_does_177 rfl rfl ?_
    refine tw_iload 1 hO dX8_does_178 rfl ?_
    obtain ⟨v180, e180, h⟩ := tw_bd h
    refine tw_cVi hO (mX8_value l G e180) cfX8_value (t := 8) rfl (kX8_value e180) tw_w790 tw_w792 tw_w41 rfl rfl rfl rfl ⟨(Nat.le_of_ble_eq_true rfl), (Nat.le_of_ble_eq_true rfl)⟩ (Nat.le_of_ble_eq_true rfl) ⟨(Nat.le_of_ble_eq_true rfl), (Nat.le_of_ble_eq_true rfl)⟩ dX8_does_180 ?_
    refine tw_imul hO dX8_does_183 ?_
    refine tw_sipush (v := 1000) hO dX8_does_184 (by decide) ?_
    refine tw_irem hO dX8_does_187 (by decide) ?_
    obtain ⟨σ188, e188, h⟩ := tw_bd h
    refine tw_iast hO dX8_does_188 e188 ?_
    refine tw_goto (tgt := 275) hO dX8_does_189 (by decide) ?_
    refine tw_sub [7] rfl ?_
    exact wX8_does_b275 hO h
  replace h := tw_ifn s3 h
  by_cases s4 : v4 = 4
  · replace h := tw_ifp s4 h
    refine tw_tableIn (off := 147) (tgt := 192) hO dX8_does_45 (by rw [s4]; decide) (by rw [s4]; decide) (by rw [s4]; rfl) (by decide) ?_
    refine tw_aload_n 5 hO dX8_does_192 rfl rfl ?_
    obtain ⟨v193, e193, h⟩ := tw_bd h
    refine tw_getP hO dX8_does_193 (t := 8) rfl 11 (by decide) rfl tw_w606 rfl e193 ?_
    refine tw_iload 0 hO dX8_does_196 rfl ?_
    refine tw_aload_n 5 hO dX8_does_198 rfl rfl ?_
    refine tw_iload_n 6 hO dX8_does_199 rfl rfl ?_
    refine tw_iconst (v := 4) hO dX8_does_200 (by decide) ?_
    refine tw_aload_n 5 hO dX8_does_201 rfl rfl ?_
    refine tw_iload_n 6 hO dX8_does_202 rfl rfl ?_
    refine tw_iload 2 hO dX8_does_203 rfl ?_
    obtain ⟨v205, e205, h⟩ := tw_bd h
    refine tw_cVi hO (mX8_value l G e205) cfX8_value (t := 8) rfl (kX8_value e205) tw_w790 tw_w792 tw_w41 rfl rfl rfl rfl ⟨(Nat.le_of_ble_eq_true rfl), (Nat.le_of_ble_eq_true rfl)⟩ (Nat.le_of_ble_eq_true rfl) ⟨(Nat.le_of_ble_eq_true rfl), (Nat.le_of_ble_eq_true rfl)⟩ dX8_does_205 ?_
    refine tw_bipush (v := 8) hO dX8_does_208 (by decide) ?_
    refine tw_irem hO dX8_does_210 (by decide) ?_
    refine tw_iadd hO dX8_does_211 ?_
    obtain ⟨v212, e212, h⟩ := tw_bd h
    refine tw_cVi hO (mX8_value l G e212) cfX8_value (t := 8) rfl (kX8_value e212) tw_w790 tw_w792 tw_w41 rfl rfl rfl rfl ⟨(Nat.le_of_ble_eq_true rfl), (Nat.le_of_ble_eq_true rfl)⟩ (Nat.le_of_ble_eq_true rfl) ⟨(Nat.le_of_ble_eq_true rfl), (Nat.le_of_ble_eq_true rfl)⟩ dX8_does_212 ?_
    obtain ⟨σ215, e215, h⟩ := tw_bd h
    refine tw_iast hO dX8_does_215 e215 ?_
    refine tw_goto (tgt := 275) hO dX8_does_216 (by decide) ?_
    refine tw_sub [7] rfl ?_
    exact wX8_does_b275 hO h
  replace h := tw_ifn s4 h
  by_cases s5 : v4 = 5
  · replace h := tw_ifp s5 h
    refine tw_tableIn (off := 174) (tgt := 219) hO dX8_does_45 (by rw [s5]; decide) (by rw [s5]; decide) (by rw [s5]; rfl) (by decide) ?_
    refine tw_aload_n 5 hO dX8_does_219 rfl rfl ?_
    obtain ⟨v220, e220, h⟩ := tw_bd h
    refine tw_getP hO dX8_does_220 (t := 8) rfl 11 (by decide) rfl tw_w606 rfl e220 ?_
    refine tw_bipush (v := 12) hO dX8_does_223 (by decide) ?_
    refine tw_iload_n 6 hO dX8_does_225 rfl rfl ?_
    refine tw_imul hO dX8_does_226 ?_
    refine tw_iconst (v := 4) hO dX8_does_227 (by decide) ?_
    refine tw_iadd hO dX8_does_228 ?_
    refine tw_aload_n 5 hO dX8_does_229 rfl rfl ?_
    refine tw_iload_n 6 hO dX8_does_230 rfl rfl ?_
    refine tw_iload 3 hO dX8_does_231 rfl ?_
    obtain ⟨v233, e233, h⟩ := tw_bd h
    refine tw_cVi hO (mX8_value l G e233) cfX8_value (t := 8) rfl (kX8_value e233) tw_w790 tw_w792 tw_w41 rfl rfl rfl rfl ⟨(Nat.le_of_ble_eq_true rfl), (Nat.le_of_ble_eq_true rfl)⟩ (Nat.le_of_ble_eq_true rfl) ⟨(Nat.le_of_ble_eq_true rfl), (Nat.le_of_ble_eq_true rfl)⟩ dX8_does_233 ?_
    refine tw_bipush (v := 8) hO dX8_does_236 (by decide) ?_
    refine tw_irem hO dX8_does_238 (by decide) ?_
    refine tw_iadd hO dX8_does_239 ?_
    refine tw_aload_n 5 hO dX8_does_240 rfl rfl ?_
    refine tw_iload_n 6 hO dX8_does_241 rfl rfl ?_
    refine tw_iload 2 hO dX8_does_242 rfl ?_
    obtain ⟨v244, e244, h⟩ := tw_bd h
    refine tw_cVi hO (mX8_value l G e244) cfX8_value (t := 8) rfl (kX8_value e244) tw_w790 tw_w792 tw_w41 rfl rfl rfl rfl ⟨(Nat.le_of_ble_eq_true rfl), (Nat.le_of_ble_eq_true rfl)⟩ (Nat.le_of_ble_eq_true rfl) ⟨(Nat.le_of_ble_eq_true rfl), (Nat.le_of_ble_eq_true rfl)⟩ dX8_does_244 ?_
    obtain ⟨σ247, e247, h⟩ := tw_bd h
    refine tw_iast hO dX8_does_247 e247 ?_
    refine tw_goto (tgt := 275) hO dX8_does_248 (by decide) ?_
    refine tw_sub [7] rfl ?_
    exact wX8_does_b275 hO h
  replace h := tw_ifn s5 h
  refine tw_tableOut (tgt := 251) hO dX8_does_45 (by have n0 := lv_neT (a := 0) s0 rfl; have n1 := lv_neT (a := 1) s1 rfl; have n2 := lv_neT (a := 2) s2 rfl; have n3 := lv_neT (a := 3) s3 rfl; have n4 := lv_neT (a := 4) s4 rfl; have n5 := lv_neT (a := 5) s5 rfl; omega) (by decide) ?_
  refine tw_aload_n 5 hO dX8_does_251 rfl rfl ?_
  refine tw_iload_n 6 hO dX8_does_252 rfl rfl ?_
  refine tw_iload 3 hO dX8_does_253 rfl ?_
  obtain ⟨v255, e255, h⟩ := tw_bd h
  refine tw_cVi hO (mX8_value l G e255) cfX8_value (t := 8) rfl (kX8_value e255) tw_w790 tw_w792 tw_w41 rfl rfl rfl rfl ⟨(Nat.le_of_ble_eq_true rfl), (Nat.le_of_ble_eq_true rfl)⟩ (Nat.le_of_ble_eq_true rfl) ⟨(Nat.le_of_ble_eq_true rfl), (Nat.le_of_ble_eq_true rfl)⟩ dX8_does_255 ?_
  refine tw_if_eq (tgt := 271) hO dX8_does_258 (by decide) (fun cc => ?_) (fun cc => ?_)
  · replace h := tw_ifp cc h
    refine tw_iload_n 7 hO dX8_does_271 rfl rfl ?_
    refine tw_iconst (v := 1) hO dX8_does_272 (by decide) ?_
    refine tw_iadd hO dX8_does_273 ?_
    exact tw_iret hO dX8_does_274 h
  · replace h := tw_ifn cc h
    refine tw_aload_n 5 hO dX8_does_261 rfl rfl ?_
    refine tw_iload_n 6 hO dX8_does_262 rfl rfl ?_
    refine tw_iload_n 7 hO dX8_does_263 rfl rfl ?_
    refine tw_iconst (v := 4) hO dX8_does_264 (by decide) ?_
    obtain ⟨v265, e265, h⟩ := tw_bd h
    refine tw_cVi hO (mX8_of l G e265) cfX8_of (t := 8) rfl (kX8_of e265) tw_w767 tw_w769 tw_w36 rfl rfl rfl rfl ⟨(Nat.le_of_ble_eq_true rfl), (Nat.le_of_ble_eq_true rfl)⟩ (Nat.le_of_ble_eq_true rfl) ⟨(Nat.le_of_ble_eq_true rfl), (Nat.le_of_ble_eq_true rfl)⟩ dX8_does_265 ?_
    refine tw_goto (tgt := 274) hO dX8_does_268 (by decide) ?_
    exact tw_iret hO dX8_does_274 h
theorem cfX8_begin : tw_CF yX8_begin cX8_begin 9 none 2 := ⟨tw_w785, tw_w56, by decide +kernel, by decide +kernel, by decide +kernel⟩
theorem kX8_begin {σ : tw_St} {a : Nat} {x1 : Int32} {x2 : Int32} {q : tw_St} (h : fX8_begin σ a x1 x2 = some q) : tw_is σ 8 a = some () := by
  unfold fX8_begin at h
  obtain ⟨_, e1, -⟩ := tw_bd h
  exact e1
set_option maxRecDepth 100000 in
set_option maxHeartbeats 4000000 in
theorem wX8_begin_b224 (hO : tw_O p s m args meth c cX8_begin RX8 9 none G) {σ : tw_St} {a0 : Nat} {x1 : Int32} {x4 : Int32} {q : tw_St} (h : fX8_begin_b224 σ a0 x1 x4 = some q) : tw_X p l e rmX8_begin s m args below meth c 9 G σ 0 0 (tw_Q below args s G 0 0 none q) 224 [(0, .ref a0), (1, .int x1), (4, .int x4)] [] := by
  unfold fX8_begin_b224 at h
  refine tw_aload_n 0 hO dX8_begin_224 rfl rfl ?_
  obtain ⟨v225, e225, h⟩ := tw_bd h
  refine tw_getP hO dX8_begin_225 (t := 8) rfl 18 (by decide) rfl tw_w613 rfl e225 ?_
  refine tw_iload_n 1 hO dX8_begin_228 rfl rfl ?_
  refine tw_aload_n 0 hO dX8_begin_229 rfl rfl ?_
  refine tw_iload_n 1 hO dX8_begin_230 rfl rfl ?_
  refine tw_iload 2 hO dX8_begin_231 rfl ?_
  obtain ⟨q233, e233, h⟩ := tw_bd h
  refine tw_cVi hO (mX8_does l G e233) cfX8_does (t := 8) rfl (kX8_does e233) tw_w786 tw_w788 tw_w40 rfl rfl rfl rfl ⟨(Nat.le_of_ble_eq_true rfl), (Nat.le_of_ble_eq_true rfl)⟩ (Nat.le_of_ble_eq_true rfl) ⟨(Nat.le_of_ble_eq_true rfl), (Nat.le_of_ble_eq_true rfl)⟩ dX8_begin_233 ?_
  obtain ⟨σ236, e236, h⟩ := tw_bd h
  refine tw_iast hO dX8_begin_236 e236 ?_
  refine tw_aload_n 0 hO dX8_begin_237 rfl rfl ?_
  obtain ⟨v238, e238, h⟩ := tw_bd h
  refine tw_getP hO dX8_begin_238 (t := 8) rfl 17 (by decide) rfl tw_w612 rfl e238 ?_
  refine tw_iload_n 1 hO dX8_begin_241 rfl rfl ?_
  refine tw_dup2 hO dX8_begin_242 rfl rfl ?_
  obtain ⟨v243, e243, h⟩ := tw_bd h
  refine tw_iald hO dX8_begin_243 e243 ?_
  refine tw_iconst (v := 1) hO dX8_begin_244 (by decide) ?_
  refine tw_iadd hO dX8_begin_245 ?_
  obtain ⟨σ246, e246, h⟩ := tw_bd h
  refine tw_iast hO dX8_begin_246 e246 ?_
  exact tw_vret hO dX8_begin_247 h
set_option maxRecDepth 100000 in
set_option maxHeartbeats 4000000 in
theorem wX8_begin_b200 (hO : tw_O p s m args meth c cX8_begin RX8 9 none G) {σ : tw_St} {a0 : Nat} {x1 : Int32} {x2 : Int32} {x4 : Int32} {x6 : Int32} {x7 : Int32} {q : tw_St} (h : fX8_begin_b200 σ a0 x1 x2 x4 x6 x7 = some q) : tw_X p l e rmX8_begin s m args below meth c 9 G σ 0 0 (tw_Q below args s G 0 0 none q) 200 [(0, .ref a0), (1, .int x1), (2, .int x2), (4, .int x4), (6, .int x6), (7, .int x7)] [] := by
  unfold fX8_begin_b200 at h
  refine tw_iload 4 hO dX8_begin_200 rfl ?_
  refine tw_if_lt (tgt := 224) hO dX8_begin_202 (by decide) (fun cc => ?_) (fun cc => ?_)
  · replace h := tw_ifp cc h
    refine tw_sub [0, 1, 3] rfl ?_
    exact wX8_begin_b224 hO h
  · replace h := tw_ifn cc h
    refine tw_aload_n 0 hO dX8_begin_205 rfl rfl ?_
    obtain ⟨v206, e206, h⟩ := tw_bd h
    refine tw_getP hO dX8_begin_206 (t := 8) rfl 21 (by decide) rfl tw_w616 rfl e206 ?_
    refine tw_iload 4 hO dX8_begin_209 rfl ?_
    refine tw_iload_n 2 hO dX8_begin_211 rfl rfl ?_
    refine tw_iload 5 hO dX8_begin_212 rfl ?_
    refine tw_iadd hO dX8_begin_214 ?_
    obtain ⟨σ215, e215, h⟩ := tw_bd h
    refine tw_iast hO dX8_begin_215 e215 ?_
    refine tw_aload_n 0 hO dX8_begin_216 rfl rfl ?_
    obtain ⟨v217, e217, h⟩ := tw_bd h
    refine tw_getP hO dX8_begin_217 (t := 8) rfl 22 (by decide) rfl tw_w617 rfl e217 ?_
    refine tw_iload 4 hO dX8_begin_220 rfl ?_
    refine tw_iload_n 1 hO dX8_begin_222 rfl rfl ?_
    obtain ⟨σ223, e223, h⟩ := tw_bd h
    refine tw_iast hO dX8_begin_223 e223 ?_
    refine tw_sub [0, 1, 3] rfl ?_
    exact wX8_begin_b224 hO h
set_option maxRecDepth 100000 in
set_option maxHeartbeats 4000000 in
theorem wX8_begin_b173 (hO : tw_O p s m args meth c cX8_begin RX8 9 none G) {σ : tw_St} {a0 : Nat} {x1 : Int32} {x2 : Int32} {x4 : Int32} {x5 : Int32} {x6 : Int32} {x7 : Int32} {q : tw_St} (h : fX8_begin_b173 σ a0 x1 x2 x4 x5 x6 x7 = some q) : tw_X p l e rmX8_begin s m args below meth c 9 G σ 0 0 (tw_Q below args s G 0 0 none q) 173 [(0, .ref a0), (1, .int x1), (2, .int x2), (4, .int x4), (5, .int x5), (6, .int x6), (7, .int x7)] [] := by
  unfold fX8_begin_b173 at h
  refine tw_iload 4 hO dX8_begin_173 rfl ?_
  refine tw_iconst (v := 5) hO dX8_begin_175 (by decide) ?_
  refine tw_icmp_ge (tgt := 200) hO dX8_begin_176 (by decide) (fun cc => ?_) (fun cc => ?_)
  · replace h := tw_ifp cc h
    refine tw_sub [0, 1, 2, 3, 5, 6] rfl ?_
    exact wX8_begin_b200 hO h
  · replace h := tw_ifn cc h
    refine tw_aload_n 0 hO dX8_begin_179 rfl rfl ?_
    obtain ⟨v180, e180, h⟩ := tw_bd h
    refine tw_getP hO dX8_begin_180 (t := 8) rfl 12 (by decide) rfl tw_w607 rfl e180 ?_
    refine tw_iconst (v := 4) hO dX8_begin_183 (by decide) ?_
    refine tw_iload_n 1 hO dX8_begin_184 rfl rfl ?_
    refine tw_imul hO dX8_begin_185 ?_
    refine tw_aload_n 0 hO dX8_begin_186 rfl rfl ?_
    refine tw_iload_n 1 hO dX8_begin_187 rfl rfl ?_
    refine tw_iload 3 hO dX8_begin_188 rfl ?_
    refine tw_iconst (v := 1) hO dX8_begin_190 (by decide) ?_
    obtain ⟨v191, e191, h⟩ := tw_bd h
    refine tw_cVi hO (mX8_of l G e191) cfX8_of (t := 8) rfl (kX8_of e191) tw_w767 tw_w769 tw_w36 rfl rfl rfl rfl ⟨(Nat.le_of_ble_eq_true rfl), (Nat.le_of_ble_eq_true rfl)⟩ (Nat.le_of_ble_eq_true rfl) ⟨(Nat.le_of_ble_eq_true rfl), (Nat.le_of_ble_eq_true rfl)⟩ dX8_begin_191 ?_
    refine tw_iadd hO dX8_begin_194 ?_
    refine tw_iload_n 2 hO dX8_begin_195 rfl rfl ?_
    refine tw_iload 6 hO dX8_begin_196 rfl ?_
    refine tw_iadd hO dX8_begin_198 ?_
    obtain ⟨σ199, e199, h⟩ := tw_bd h
    refine tw_iast hO dX8_begin_199 e199 ?_
    refine tw_sub [0, 1, 2, 3, 5, 6] rfl ?_
    exact wX8_begin_b200 hO h
set_option maxRecDepth 100000 in
set_option maxHeartbeats 4000000 in
theorem wX8_begin_h104 (hO : tw_O p s m args meth c cX8_begin RX8 9 none G) {k104 : (tw_St → Nat → Int32 → Int32 → Int32 → Int32 → Int32 → Int32 → Int32 → Int32 → Option (tw_St))} (hk104 : ∀ (σ : tw_St) (a0 : Nat) (x1 : Int32) (x2 : Int32) (x3 : Int32) (x4 : Int32) (x5 : Int32) (x6 : Int32) (x7 : Int32) (x8 : Int32) (q : tw_St), k104 σ a0 x1 x2 x3 x4 x5 x6 x7 x8 = some q → tw_X p l e rmX8_begin s m args below meth c 9 G σ 0 0 (tw_Q below args s G 0 0 none q) 104 [(0, .ref a0), (1, .int x1), (2, .int x2), (3, .int x3), (4, .int x4), (5, .int x5), (6, .int x6), (7, .int x7), (8, .int x8)] []) {σ : tw_St} {a0 : Nat} {x1 : Int32} {x2 : Int32} {x3 : Int32} {x4 : Int32} {x5 : Int32} {x6 : Int32} {x7 : Int32} {x8 : Int32} {q : tw_St} (h : fX8_begin_h104 k104 σ a0 x1 x2 x3 x4 x5 x6 x7 x8 = some q) : tw_X p l e rmX8_begin s m args below meth c 9 G σ 0 0 (tw_Q below args s G 0 0 none q) 104 [(0, .ref a0), (1, .int x1), (2, .int x2), (3, .int x3), (4, .int x4), (5, .int x5), (6, .int x6), (7, .int x7), (8, .int x8)] [] := by
  unfold fX8_begin_h104 at h
  refine tw_iload 8 hO dX8_begin_104 rfl ?_
  refine tw_iconst (v := 5) hO dX8_begin_106 (by decide) ?_
  refine tw_icmp_ge (tgt := 173) hO dX8_begin_107 (by decide) (fun cc => ?_) (fun cc => ?_)
  · replace h := tw_ifp cc h
    refine tw_sub [0, 1, 2, 4, 5, 6, 7] rfl ?_
    exact wX8_begin_b173 hO h
  · replace h := tw_ifn cc h
    refine tw_aload_n 0 hO dX8_begin_110 rfl rfl ?_
    obtain ⟨v111, e111, h⟩ := tw_bd h
    refine tw_getP hO dX8_begin_111 (t := 8) rfl 19 (by decide) rfl tw_w614 rfl e111 ?_
    refine tw_iconst (v := 5) hO dX8_begin_114 (by decide) ?_
    refine tw_iload_n 1 hO dX8_begin_115 rfl rfl ?_
    refine tw_imul hO dX8_begin_116 ?_
    refine tw_iload 8 hO dX8_begin_117 rfl ?_
    refine tw_iadd hO dX8_begin_119 ?_
    refine tw_dup2 hO dX8_begin_120 rfl rfl ?_
    obtain ⟨v121, e121, h⟩ := tw_bd h
    refine tw_iald hO dX8_begin_121 e121 ?_
    refine tw_aload_n 0 hO dX8_begin_122 rfl rfl ?_
    obtain ⟨v123, e123, h⟩ := tw_bd h
    refine tw_getP hO dX8_begin_123 (t := 8) rfl 20 (by decide) rfl tw_w615 rfl e123 ?_
    refine tw_iconst (v := 5) hO dX8_begin_126 (by decide) ?_
    refine tw_iload_n 1 hO dX8_begin_127 rfl rfl ?_
    refine tw_imul hO dX8_begin_128 ?_
    refine tw_iload 8 hO dX8_begin_129 rfl ?_
    refine tw_iadd hO dX8_begin_131 ?_
    obtain ⟨v132, e132, h⟩ := tw_bd h
    refine tw_iald hO dX8_begin_132 e132 ?_
    refine tw_iadd hO dX8_begin_133 ?_
    obtain ⟨σ134, e134, h⟩ := tw_bd h
    refine tw_iast hO dX8_begin_134 e134 ?_
    refine tw_aload_n 0 hO dX8_begin_135 rfl rfl ?_
    obtain ⟨v136, e136, h⟩ := tw_bd h
    refine tw_getP hO dX8_begin_136 (t := 8) rfl 16 (by decide) rfl tw_w611 rfl e136 ?_
    refine tw_iload_n 3 hO dX8_begin_139 rfl rfl ?_
    refine tw_dup2 hO dX8_begin_140 rfl rfl ?_
    obtain ⟨v141, e141, h⟩ := tw_bd h
    refine tw_iald hO dX8_begin_141 e141 ?_
    refine tw_aload_n 0 hO dX8_begin_142 rfl rfl ?_
    obtain ⟨v143, e143, h⟩ := tw_bd h
    refine tw_getP hO dX8_begin_143 (t := 8) rfl 20 (by decide) rfl tw_w615 rfl e143 ?_
    refine tw_iconst (v := 5) hO dX8_begin_146 (by decide) ?_
    refine tw_iload_n 1 hO dX8_begin_147 rfl rfl ?_
    refine tw_imul hO dX8_begin_148 ?_
    refine tw_iload 8 hO dX8_begin_149 rfl ?_
    refine tw_iadd hO dX8_begin_151 ?_
    obtain ⟨v152, e152, h⟩ := tw_bd h
    refine tw_iald hO dX8_begin_152 e152 ?_
    refine tw_iadd hO dX8_begin_153 ?_
    obtain ⟨σ154, e154, h⟩ := tw_bd h
    refine tw_iast hO dX8_begin_154 e154 ?_
    refine tw_aload_n 0 hO dX8_begin_155 rfl rfl ?_
    obtain ⟨v156, e156, h⟩ := tw_bd h
    refine tw_getP hO dX8_begin_156 (t := 8) rfl 20 (by decide) rfl tw_w615 rfl e156 ?_
    refine tw_iconst (v := 5) hO dX8_begin_159 (by decide) ?_
    refine tw_iload_n 1 hO dX8_begin_160 rfl rfl ?_
    refine tw_imul hO dX8_begin_161 ?_
    refine tw_iload 8 hO dX8_begin_162 rfl ?_
    refine tw_iadd hO dX8_begin_164 ?_
    refine tw_iconst (v := 0) hO dX8_begin_165 (by decide) ?_
    obtain ⟨σ166, e166, h⟩ := tw_bd h
    refine tw_iast hO dX8_begin_166 e166 ?_
    refine tw_iinc (q := 8) (v := (x8 + 1)) (lv' := [(8, .int (x8 + 1)), (0, .ref a0), (1, .int x1), (2, .int x2), (3, .int x3), (4, .int x4), (5, .int x5), (6, .int x6), (7, .int x7)]) hO dX8_begin_167 rfl rfl (by decide) rfl ?_
    refine tw_goto (tgt := 104) hO dX8_begin_170 (by decide) ?_
    refine tw_sub [1, 2, 3, 4, 5, 6, 7, 8, 0] rfl ?_
    exact hk104 _ _ _ _ _ _ _ _ _ _ _ h
set_option maxRecDepth 100000 in
set_option maxHeartbeats 4000000 in
theorem wX8_begin_l104 (hO : tw_O p s m args meth c cX8_begin RX8 9 none G) : ∀ (n : Nat) (σ : tw_St) (a0 : Nat) (x1 : Int32) (x2 : Int32) (x3 : Int32) (x4 : Int32) (x5 : Int32) (x6 : Int32) (x7 : Int32) (x8 : Int32) (q : tw_St), fX8_begin_l104 n σ a0 x1 x2 x3 x4 x5 x6 x7 x8 = some q → tw_X p l e rmX8_begin s m args below meth c 9 G σ 0 0 (tw_Q below args s G 0 0 none q) 104 [(0, .ref a0), (1, .int x1), (2, .int x2), (3, .int x3), (4, .int x4), (5, .int x5), (6, .int x6), (7, .int x7), (8, .int x8)] [] := by
  intro n
  induction n with
  | zero => intro _ _ _ _ _ _ _ _ _ _ q h; cases (show (none : Option (tw_St)) = some q from h)
  | succ n ih => intro _ _ _ _ _ _ _ _ _ _ q h; exact wX8_begin_h104 hO ih h
set_option maxRecDepth 100000 in
set_option maxHeartbeats 4000000 in
theorem wX8_begin_b67 (hO : tw_O p s m args meth c cX8_begin RX8 9 none G) {σ : tw_St} {a0 : Nat} {x1 : Int32} {x2 : Int32} {x3 : Int32} {x4 : Int32} {x5 : Int32} {x6 : Int32} {z0 : Int32} {q : tw_St} (h : fX8_begin_b67 σ a0 x1 x2 x3 x4 x5 x6 z0 = some q) : tw_X p l e rmX8_begin s m args below meth c 9 G σ 0 0 (tw_Q below args s G 0 0 none q) 67 [(0, .ref a0), (1, .int x1), (2, .int x2), (3, .int x3), (4, .int x4), (5, .int x5), (6, .int x6)] [.int z0] := by
  unfold fX8_begin_b67 at h
  refine tw_istore (lv' := [(7, .int z0), (0, .ref a0), (1, .int x1), (2, .int x2), (3, .int x3), (4, .int x4), (5, .int x5), (6, .int x6)]) hO dX8_begin_67 (by decide) rfl ?_
  refine tw_aload_n 1 hO dX8_begin_69 rfl rfl ?_
  obtain ⟨v70, e70, h⟩ := tw_bd h
  refine tw_getP hO dX8_begin_70 (t := 8) rfl 13 (by decide) rfl tw_w608 rfl e70 ?_
  refine tw_iload_n 4 hO dX8_begin_73 rfl rfl ?_
  refine tw_iload_n 3 hO dX8_begin_74 rfl rfl ?_
  obtain ⟨σ75, e75, h⟩ := tw_bd h
  refine tw_iast hO dX8_begin_75 e75 ?_
  refine tw_aload_n 1 hO dX8_begin_76 rfl rfl ?_
  obtain ⟨v77, e77, h⟩ := tw_bd h
  refine tw_getP hO dX8_begin_77 (t := 8) rfl 14 (by decide) rfl tw_w609 rfl e77 ?_
  refine tw_iload_n 4 hO dX8_begin_80 rfl rfl ?_
  refine tw_iload 5 hO dX8_begin_81 rfl ?_
  obtain ⟨σ83, e83, h⟩ := tw_bd h
  refine tw_iast hO dX8_begin_83 e83 ?_
  refine tw_aload_n 1 hO dX8_begin_84 rfl rfl ?_
  obtain ⟨v85, e85, h⟩ := tw_bd h
  refine tw_getP hO dX8_begin_85 (t := 8) rfl 15 (by decide) rfl tw_w610 rfl e85 ?_
  refine tw_iload_n 4 hO dX8_begin_88 rfl rfl ?_
  refine tw_iload_n 3 hO dX8_begin_89 rfl rfl ?_
  refine tw_iload 0 hO dX8_begin_90 rfl ?_
  refine tw_iadd hO dX8_begin_92 ?_
  obtain ⟨σ93, e93, h⟩ := tw_bd h
  refine tw_iast hO dX8_begin_93 e93 ?_
  refine tw_aload_n 1 hO dX8_begin_94 rfl rfl ?_
  obtain ⟨v95, e95, h⟩ := tw_bd h
  refine tw_getP hO dX8_begin_95 (t := 8) rfl 16 (by decide) rfl tw_w611 rfl e95 ?_
  refine tw_iload_n 4 hO dX8_begin_98 rfl rfl ?_
  refine tw_iconst (v := 0) hO dX8_begin_99 (by decide) ?_
  obtain ⟨σ100, e100, h⟩ := tw_bd h
  refine tw_iast hO dX8_begin_100 e100 ?_
  refine tw_iconst (v := 1) hO dX8_begin_101 (by decide) ?_
  refine tw_istore (lv' := [(8, .int 1), (7, .int z0), (0, .ref a0), (1, .int x1), (2, .int x2), (3, .int x3), (4, .int x4), (5, .int x5), (6, .int x6)]) hO dX8_begin_102 (by decide) rfl ?_
  refine tw_sub [2, 3, 4, 5, 6, 7, 8, 1, 0] rfl ?_
  exact wX8_begin_l104 hO _ _ _ _ _ _ _ _ _ _ _ _ h
set_option maxRecDepth 100000 in
set_option maxHeartbeats 4000000 in
theorem mX8_begin (l : Launch) (G : tw_G) {σ : tw_St} {a : Nat} {x1 : Int32} {x2 : Int32} {q : tw_St} (h : fX8_begin σ a x1 x2 = some q) : tw_M l G yX8_begin cX8_begin 9 none rmX8_begin 0 0 σ [.ref a, .int x1, .int x2] none q := by
  unfold fX8_begin at h
  obtain ⟨_, -, h⟩ := tw_bd h
  refine tw_M.of (by decide +kernel) (Nat.le_of_ble_eq_true rfl) (fun p e s m args below meth c hnm hO => ?_)
  have hO : tw_O p s m args meth c cX8_begin RX8 9 none G := hO
  refine tw_bipush (v := 100) hO dX8_begin_0 (by decide) ?_
  refine tw_iload_n 1 hO dX8_begin_2 rfl rfl ?_
  refine tw_imul hO dX8_begin_3 ?_
  refine tw_aload_n 0 hO dX8_begin_4 rfl rfl ?_
  obtain ⟨v5, e5, h⟩ := tw_bd h
  refine tw_getP hO dX8_begin_5 (t := 8) rfl 17 (by decide) rfl tw_w612 rfl e5 ?_
  refine tw_iload_n 1 hO dX8_begin_8 rfl rfl ?_
  obtain ⟨v9, e9, h⟩ := tw_bd h
  refine tw_iald hO dX8_begin_9 e9 ?_
  refine tw_iadd hO dX8_begin_10 ?_
  refine tw_istore_n (lv' := [(3, .int ((100 * x1) + v9)), (0, .ref a), (1, .int x1), (2, .int x2)]) hO dX8_begin_11 rfl (by decide) rfl ?_
  refine tw_aload_n 1 hO dX8_begin_12 rfl rfl ?_
  obtain ⟨v13, e13, h⟩ := tw_bd h
  refine tw_getP hO dX8_begin_13 (t := 8) rfl 18 (by decide) rfl tw_w613 rfl e13 ?_
  refine tw_iload_n 2 hO dX8_begin_16 rfl rfl ?_
  obtain ⟨v17, e17, h⟩ := tw_bd h
  refine tw_iald hO dX8_begin_17 e17 ?_
  refine tw_istore (lv' := [(4, .int v17), (3, .int ((100 * x1) + v9)), (0, .ref a), (1, .int x1), (2, .int x2)]) hO dX8_begin_18 (by decide) rfl ?_
  refine tw_aload_n 2 hO dX8_begin_20 rfl rfl ?_
  refine tw_iload_n 3 hO dX8_begin_21 rfl rfl ?_
  refine tw_iload 0 hO dX8_begin_22 rfl ?_
  refine tw_iconst (v := 0) hO dX8_begin_24 (by decide) ?_
  obtain ⟨v25, e25, h⟩ := tw_bd h
  refine tw_cVi hO (mX8_of l G e25) cfX8_of (t := 8) rfl (kX8_of e25) tw_w767 tw_w769 tw_w36 rfl rfl rfl rfl ⟨(Nat.le_of_ble_eq_true rfl), (Nat.le_of_ble_eq_true rfl)⟩ (Nat.le_of_ble_eq_true rfl) ⟨(Nat.le_of_ble_eq_true rfl), (Nat.le_of_ble_eq_true rfl)⟩ dX8_begin_25 ?_
  refine tw_istore (lv' := [(5, .int v25), (4, .int v17), (3, .int ((100 * x1) + v9)), (0, .ref a), (1, .int x1), (2, .int x2)]) hO dX8_begin_28 (by decide) rfl ?_
  refine tw_iload 0 hO dX8_begin_30 rfl ?_
  obtain ⟨v32, e32, h⟩ := tw_bd h
  refine tw_cSi hO (mX8_roomOf l G e32) cfX8_roomOf tw_w771 tw_w772 rfl rfl rfl rfl ⟨(Nat.le_of_ble_eq_true rfl), (Nat.le_of_ble_eq_true rfl)⟩ (Nat.le_of_ble_eq_true rfl) ⟨(Nat.le_of_ble_eq_true rfl), (Nat.le_of_ble_eq_true rfl)⟩ dX8_begin_32 ?_
  refine tw_istore (lv' := [(6, .int v32), (5, .int v25), (4, .int v17), (3, .int ((100 * x1) + v9)), (0, .ref a), (1, .int x1), (2, .int x2)]) hO dX8_begin_35 (by decide) rfl ?_
  refine tw_iload 0 hO dX8_begin_37 rfl ?_
  refine tw_if_ne (tgt := 51) hO dX8_begin_39 (by decide) (fun cc => ?_) (fun cc => ?_)
  · replace h := tw_ifn cc h
    refine tw_iload 0 hO dX8_begin_51 rfl ?_
    refine tw_iconst (v := 1) hO dX8_begin_53 (by decide) ?_
    refine tw_icmp_ne (tgt := 66) hO dX8_begin_54 (by decide) (fun cc => ?_) (fun cc => ?_)
    · replace h := tw_ifn cc h
      refine tw_iconst (v := 1) hO dX8_begin_66 (by decide) ?_
      refine tw_sub [4, 5, 6, 3, 2, 1, 0] rfl ?_
      exact wX8_begin_b67 hO h
    · replace h := tw_ifp cc h
      refine tw_aload_n 4 hO dX8_begin_57 rfl rfl ?_
      obtain ⟨v58, e58, h⟩ := tw_bd h
      refine tw_getP hO dX8_begin_58 (t := 8) rfl 0 (by decide) rfl tw_w595 rfl e58 ?_
      refine tw_iconst (v := 2) hO dX8_begin_61 (by decide) ?_
      obtain ⟨v62, e62, h⟩ := tw_bd h
      refine tw_iald hO dX8_begin_62 e62 ?_
      refine tw_goto (tgt := 67) hO dX8_begin_63 (by decide) ?_
      refine tw_sub [4, 5, 6, 3, 2, 1, 0] rfl ?_
      exact wX8_begin_b67 hO h
  · replace h := tw_ifp cc h
    refine tw_aload_n 4 hO dX8_begin_42 rfl rfl ?_
    obtain ⟨v43, e43, h⟩ := tw_bd h
    refine tw_getP hO dX8_begin_43 (t := 8) rfl 0 (by decide) rfl tw_w595 rfl e43 ?_
    refine tw_iconst (v := 1) hO dX8_begin_46 (by decide) ?_
    obtain ⟨v47, e47, h⟩ := tw_bd h
    refine tw_iald hO dX8_begin_47 e47 ?_
    refine tw_goto (tgt := 67) hO dX8_begin_48 (by decide) ?_
    refine tw_sub [4, 5, 6, 3, 2, 1, 0] rfl ?_
    exact wX8_begin_b67 hO h
theorem cfX8_lengthOf : tw_CF yX8_lengthOf cX8_lengthOf 4 (some .int) 1 := ⟨tw_w797, tw_w56, by decide +kernel, by decide +kernel, by decide +kernel⟩
theorem kX8_lengthOf {σ : tw_St} {a : Nat} {x1 : Int32} {q : Int32} (h : fX8_lengthOf σ a x1 = some q) : tw_is σ 8 a = some () := by
  unfold fX8_lengthOf at h
  obtain ⟨_, e1, -⟩ := tw_bd h
  exact e1
set_option maxRecDepth 100000 in
set_option maxHeartbeats 4000000 in
theorem wX8_lengthOf_b44 (hO : tw_O p s m args meth c cX8_lengthOf RX8 4 (some .int) G) {k4 : (tw_St → Nat → Int32 → Int32 → Int32 → Option (Int32))} (hk4 : ∀ (σ : tw_St) (a0 : Nat) (x1 : Int32) (x2 : Int32) (x3 : Int32) (q : Int32), k4 σ a0 x1 x2 x3 = some q → tw_X p l e rmX8_lengthOf s m args below meth c 4 G σ 0 0 (tw_Q below args s G 0 0 (some (.int q)) σ) 4 [(0, .ref a0), (1, .int x1), (2, .int x2), (3, .int x3)] []) {σ : tw_St} {a0 : Nat} {x1 : Int32} {x3 : Int32} {z0 : Int32} {q : Int32} (h : fX8_lengthOf_b44 k4 σ a0 x1 x3 z0 = some q) : tw_X p l e rmX8_lengthOf s m args below meth c 4 G σ 0 0 (tw_Q below args s G 0 0 (some (.int q)) σ) 44 [(0, .ref a0), (1, .int x1), (3, .int x3)] [.int z0] := by
  unfold fX8_lengthOf_b44 at h
  refine tw_istore_n (lv' := [(2, .int z0), (0, .ref a0), (1, .int x1), (3, .int x3)]) hO dX8_lengthOf_44 rfl (by decide) rfl ?_
  refine tw_iinc (q := 3) (v := (x3 + 1)) (lv' := [(3, .int (x3 + 1)), (2, .int z0), (0, .ref a0), (1, .int x1)]) hO dX8_lengthOf_45 rfl rfl (by decide) rfl ?_
  refine tw_goto (tgt := 4) hO dX8_lengthOf_48 (by decide) ?_
  refine tw_sub [2, 3, 1, 0] rfl ?_
  exact hk4 _ _ _ _ _ _ h
set_option maxRecDepth 100000 in
set_option maxHeartbeats 4000000 in
theorem wX8_lengthOf_h4 (hO : tw_O p s m args meth c cX8_lengthOf RX8 4 (some .int) G) {k4 : (tw_St → Nat → Int32 → Int32 → Int32 → Option (Int32))} (hk4 : ∀ (σ : tw_St) (a0 : Nat) (x1 : Int32) (x2 : Int32) (x3 : Int32) (q : Int32), k4 σ a0 x1 x2 x3 = some q → tw_X p l e rmX8_lengthOf s m args below meth c 4 G σ 0 0 (tw_Q below args s G 0 0 (some (.int q)) σ) 4 [(0, .ref a0), (1, .int x1), (2, .int x2), (3, .int x3)] []) {σ : tw_St} {a0 : Nat} {x1 : Int32} {x2 : Int32} {x3 : Int32} {q : Int32} (h : fX8_lengthOf_h4 k4 σ a0 x1 x2 x3 = some q) : tw_X p l e rmX8_lengthOf s m args below meth c 4 G σ 0 0 (tw_Q below args s G 0 0 (some (.int q)) σ) 4 [(0, .ref a0), (1, .int x1), (2, .int x2), (3, .int x3)] [] := by
  unfold fX8_lengthOf_h4 at h
  refine tw_iload_n 3 hO dX8_lengthOf_4 rfl rfl ?_
  refine tw_aload_n 0 hO dX8_lengthOf_5 rfl rfl ?_
  obtain ⟨v6, e6, h⟩ := tw_bd h
  refine tw_getP hO dX8_lengthOf_6 (t := 8) rfl 17 (by decide) rfl tw_w612 rfl e6 ?_
  refine tw_iload_n 1 hO dX8_lengthOf_9 rfl rfl ?_
  obtain ⟨v10, e10, h⟩ := tw_bd h
  refine tw_iald hO dX8_lengthOf_10 e10 ?_
  refine tw_icmp_ge (tgt := 51) hO dX8_lengthOf_11 (by decide) (fun cc => ?_) (fun cc => ?_)
  · replace h := tw_ifp cc h
    refine tw_iload_n 2 hO dX8_lengthOf_51 rfl rfl ?_
    exact tw_iretR hO dX8_lengthOf_52 h
  · replace h := tw_ifn cc h
    refine tw_aload_n 0 hO dX8_lengthOf_14 rfl rfl ?_
    obtain ⟨v15, e15, h⟩ := tw_bd h
    refine tw_getP hO dX8_lengthOf_15 (t := 8) rfl 15 (by decide) rfl tw_w610 rfl e15 ?_
    refine tw_bipush (v := 100) hO dX8_lengthOf_18 (by decide) ?_
    refine tw_iload_n 1 hO dX8_lengthOf_20 rfl rfl ?_
    refine tw_imul hO dX8_lengthOf_21 ?_
    refine tw_iload_n 3 hO dX8_lengthOf_22 rfl rfl ?_
    refine tw_iadd hO dX8_lengthOf_23 ?_
    obtain ⟨v24, e24, h⟩ := tw_bd h
    refine tw_iald hO dX8_lengthOf_24 e24 ?_
    refine tw_iload_n 2 hO dX8_lengthOf_25 rfl rfl ?_
    refine tw_icmp_le (tgt := 43) hO dX8_lengthOf_26 (by decide) (fun cc => ?_) (fun cc => ?_)
    · replace h := tw_ifp cc h
      refine tw_iload_n 2 hO dX8_lengthOf_43 rfl rfl ?_
      refine tw_sub [0, 1, 3] rfl ?_
      exact wX8_lengthOf_b44 hO hk4 h
    · replace h := tw_ifn cc h
      refine tw_aload_n 0 hO dX8_lengthOf_29 rfl rfl ?_
      obtain ⟨v30, e30, h⟩ := tw_bd h
      refine tw_getP hO dX8_lengthOf_30 (t := 8) rfl 15 (by decide) rfl tw_w610 rfl e30 ?_
      refine tw_bipush (v := 100) hO dX8_lengthOf_33 (by decide) ?_
      refine tw_iload_n 1 hO dX8_lengthOf_35 rfl rfl ?_
      refine tw_imul hO dX8_lengthOf_36 ?_
      refine tw_iload_n 3 hO dX8_lengthOf_37 rfl rfl ?_
      refine tw_iadd hO dX8_lengthOf_38 ?_
      obtain ⟨v39, e39, h⟩ := tw_bd h
      refine tw_iald hO dX8_lengthOf_39 e39 ?_
      refine tw_goto (tgt := 44) hO dX8_lengthOf_40 (by decide) ?_
      refine tw_sub [0, 1, 3] rfl ?_
      exact wX8_lengthOf_b44 hO hk4 h
set_option maxRecDepth 100000 in
set_option maxHeartbeats 4000000 in
theorem wX8_lengthOf_l4 (hO : tw_O p s m args meth c cX8_lengthOf RX8 4 (some .int) G) : ∀ (n : Nat) (σ : tw_St) (a0 : Nat) (x1 : Int32) (x2 : Int32) (x3 : Int32) (q : Int32), fX8_lengthOf_l4 n σ a0 x1 x2 x3 = some q → tw_X p l e rmX8_lengthOf s m args below meth c 4 G σ 0 0 (tw_Q below args s G 0 0 (some (.int q)) σ) 4 [(0, .ref a0), (1, .int x1), (2, .int x2), (3, .int x3)] [] := by
  intro n
  induction n with
  | zero => intro _ _ _ _ _ q h; cases (show (none : Option (Int32)) = some q from h)
  | succ n ih => intro _ _ _ _ _ q h; exact wX8_lengthOf_h4 hO ih h
set_option maxRecDepth 100000 in
set_option maxHeartbeats 4000000 in
theorem mX8_lengthOf (l : Launch) (G : tw_G) {σ : tw_St} {a : Nat} {x1 : Int32} {q : Int32} (h : fX8_lengthOf σ a x1 = some q) : tw_M l G yX8_lengthOf cX8_lengthOf 4 (some .int) rmX8_lengthOf 0 0 σ [.ref a, .int x1] (some (.int q)) σ := by
  unfold fX8_lengthOf at h
  obtain ⟨_, -, h⟩ := tw_bd h
  refine tw_M.of (by decide +kernel) (Nat.le_of_ble_eq_true rfl) (fun p e s m args below meth c hnm hO => ?_)
  have hO : tw_O p s m args meth c cX8_lengthOf RX8 4 (some .int) G := hO
  refine tw_iconst (v := 0) hO dX8_lengthOf_0 (by decide) ?_
  refine tw_istore_n (lv' := [(2, .int 0), (0, .ref a), (1, .int x1)]) hO dX8_lengthOf_1 rfl (by decide) rfl ?_
  refine tw_iconst (v := 0) hO dX8_lengthOf_2 (by decide) ?_
  refine tw_istore_n (lv' := [(3, .int 0), (2, .int 0), (0, .ref a), (1, .int x1)]) hO dX8_lengthOf_3 rfl (by decide) rfl ?_
  refine tw_sub [2, 3, 1, 0] rfl ?_
  exact wX8_lengthOf_l4 hO _ _ _ _ _ _ _ h
theorem cfX8_goThrough : tw_CF yX8_goThrough cX8_goThrough 8 (some .int) 3 := ⟨tw_w754, tw_w56, by decide +kernel, by decide +kernel, by decide +kernel⟩
theorem kX8_goThrough {σ : tw_St} {a : Nat} {x1 : Int32} {x2 : Int32} {x3 : Int32} {q : Int32 × tw_St} (h : fX8_goThrough σ a x1 x2 x3 = some q) : tw_is σ 8 a = some () := by
  unfold fX8_goThrough at h
  obtain ⟨_, e1, -⟩ := tw_bd h
  exact e1
set_option maxRecDepth 100000 in
set_option maxHeartbeats 4000000 in
theorem wX8_goThrough_b289 (hO : tw_O p s m args meth c cX8_goThrough RX8 8 (some .int) G) {k183 : (tw_St → Nat → Int32 → Int32 → Int32 → Option (Int32 × tw_St))} (hk183 : ∀ (σ : tw_St) (a0 : Nat) (x1 : Int32) (x2 : Int32) (x4 : Int32) (q : Int32 × tw_St), k183 σ a0 x1 x2 x4 = some q → tw_X p l e rmX8_goThrough s m args below meth c 8 G σ 0 0 (tw_Q below args s G 0 0 (some (.int q.1)) q.2) 183 [(0, .ref a0), (1, .int x1), (2, .int x2), (4, .int x4)] []) {σ : tw_St} {a0 : Nat} {x1 : Int32} {x2 : Int32} {x4 : Int32} {q : Int32 × tw_St} (h : fX8_goThrough_b289 k183 σ a0 x1 x2 x4 = some q) : tw_X p l e rmX8_goThrough s m args below meth c 8 G σ 0 0 (tw_Q below args s G 0 0 (some (.int q.1)) q.2) 289 [(0, .ref a0), (1, .int x1), (2, .int x2), (4, .int x4)] [] := by
  unfold fX8_goThrough_b289 at h
  refine tw_iinc (q := 3) (v := (x4 + 1)) (lv' := [(4, .int (x4 + 1)), (0, .ref a0), (1, .int x1), (2, .int x2)]) hO dX8_goThrough_289 rfl rfl (by decide) rfl ?_
  refine tw_goto (tgt := 183) hO dX8_goThrough_292 (by decide) ?_
  refine tw_sub [1, 2, 3, 0] rfl ?_
  exact hk183 _ _ _ _ _ _ h
set_option maxRecDepth 100000 in
set_option maxHeartbeats 4000000 in
theorem wX8_goThrough_b276 (hO : tw_O p s m args meth c cX8_goThrough RX8 8 (some .int) G) {k183 : (tw_St → Nat → Int32 → Int32 → Int32 → Option (Int32 × tw_St))} (hk183 : ∀ (σ : tw_St) (a0 : Nat) (x1 : Int32) (x2 : Int32) (x4 : Int32) (q : Int32 × tw_St), k183 σ a0 x1 x2 x4 = some q → tw_X p l e rmX8_goThrough s m args below meth c 8 G σ 0 0 (tw_Q below args s G 0 0 (some (.int q.1)) q.2) 183 [(0, .ref a0), (1, .int x1), (2, .int x2), (4, .int x4)] []) {σ : tw_St} {a0 : Nat} {x1 : Int32} {x2 : Int32} {x4 : Int32} {x5 : Int32} {q : Int32 × tw_St} (h : fX8_goThrough_b276 k183 σ a0 x1 x2 x4 x5 = some q) : tw_X p l e rmX8_goThrough s m args below meth c 8 G σ 0 0 (tw_Q below args s G 0 0 (some (.int q.1)) q.2) 276 [(0, .ref a0), (1, .int x1), (2, .int x2), (4, .int x4), (5, .int x5)] [] := by
  unfold fX8_goThrough_b276 at h
  refine tw_iload 4 hO dX8_goThrough_276 rfl ?_
  refine tw_if_lt (tgt := 289) hO dX8_goThrough_278 (by decide) (fun cc => ?_) (fun cc => ?_)
  · replace h := tw_ifp cc h
    refine tw_sub [0, 1, 2, 3] rfl ?_
    exact wX8_goThrough_b289 hO hk183 h
  · replace h := tw_ifn cc h
    refine tw_aload_n 0 hO dX8_goThrough_281 rfl rfl ?_
    refine tw_iload 4 hO dX8_goThrough_282 rfl ?_
    refine tw_iload 3 hO dX8_goThrough_284 rfl ?_
    obtain ⟨σ286, e286, h⟩ := tw_bd h
    refine tw_cVv hO (mX8_begin l G e286) cfX8_begin (t := 8) rfl (kX8_begin e286) tw_w782 tw_w784 tw_w39 rfl rfl rfl rfl ⟨(Nat.le_of_ble_eq_true rfl), (Nat.le_of_ble_eq_true rfl)⟩ (Nat.le_of_ble_eq_true rfl) ⟨(Nat.le_of_ble_eq_true rfl), (Nat.le_of_ble_eq_true rfl)⟩ dX8_goThrough_286 ?_
    refine tw_sub [0, 1, 2, 3] rfl ?_
    exact wX8_goThrough_b289 hO hk183 h
set_option maxRecDepth 100000 in
set_option maxHeartbeats 4000000 in
theorem wX8_goThrough_b270 (hO : tw_O p s m args meth c cX8_goThrough RX8 8 (some .int) G) {k183 : (tw_St → Nat → Int32 → Int32 → Int32 → Option (Int32 × tw_St))} {k212 : (tw_St → Nat → Int32 → Int32 → Int32 → Int32 → Int32 → Option (Int32 × tw_St))} (hk183 : ∀ (σ : tw_St) (a0 : Nat) (x1 : Int32) (x2 : Int32) (x4 : Int32) (q : Int32 × tw_St), k183 σ a0 x1 x2 x4 = some q → tw_X p l e rmX8_goThrough s m args below meth c 8 G σ 0 0 (tw_Q below args s G 0 0 (some (.int q.1)) q.2) 183 [(0, .ref a0), (1, .int x1), (2, .int x2), (4, .int x4)] []) (hk212 : ∀ (σ : tw_St) (a0 : Nat) (x1 : Int32) (x2 : Int32) (x4 : Int32) (x5 : Int32) (x6 : Int32) (q : Int32 × tw_St), k212 σ a0 x1 x2 x4 x5 x6 = some q → tw_X p l e rmX8_goThrough s m args below meth c 8 G σ 0 0 (tw_Q below args s G 0 0 (some (.int q.1)) q.2) 212 [(0, .ref a0), (1, .int x1), (2, .int x2), (4, .int x4), (5, .int x5), (6, .int x6)] []) {σ : tw_St} {a0 : Nat} {x1 : Int32} {x2 : Int32} {x4 : Int32} {x5 : Int32} {x6 : Int32} {q : Int32 × tw_St} (h : fX8_goThrough_b270 k183 k212 σ a0 x1 x2 x4 x5 x6 = some q) : tw_X p l e rmX8_goThrough s m args below meth c 8 G σ 0 0 (tw_Q below args s G 0 0 (some (.int q.1)) q.2) 270 [(0, .ref a0), (1, .int x1), (2, .int x2), (4, .int x4), (5, .int x5), (6, .int x6)] [] := by
  unfold fX8_goThrough_b270 at h
  refine tw_iinc (q := 5) (v := (x6 + 1)) (lv' := [(6, .int (x6 + 1)), (0, .ref a0), (1, .int x1), (2, .int x2), (4, .int x4), (5, .int x5)]) hO dX8_goThrough_270 rfl rfl (by decide) rfl ?_
  refine tw_goto (tgt := 212) hO dX8_goThrough_273 (by decide) ?_
  refine tw_sub [1, 2, 3, 4, 5, 0] rfl ?_
  exact hk212 _ _ _ _ _ _ _ _ h
set_option maxRecDepth 100000 in
set_option maxHeartbeats 4000000 in
theorem wX8_goThrough_b264 (hO : tw_O p s m args meth c cX8_goThrough RX8 8 (some .int) G) {k183 : (tw_St → Nat → Int32 → Int32 → Int32 → Option (Int32 × tw_St))} {k212 : (tw_St → Nat → Int32 → Int32 → Int32 → Int32 → Int32 → Option (Int32 × tw_St))} (hk183 : ∀ (σ : tw_St) (a0 : Nat) (x1 : Int32) (x2 : Int32) (x4 : Int32) (q : Int32 × tw_St), k183 σ a0 x1 x2 x4 = some q → tw_X p l e rmX8_goThrough s m args below meth c 8 G σ 0 0 (tw_Q below args s G 0 0 (some (.int q.1)) q.2) 183 [(0, .ref a0), (1, .int x1), (2, .int x2), (4, .int x4)] []) (hk212 : ∀ (σ : tw_St) (a0 : Nat) (x1 : Int32) (x2 : Int32) (x4 : Int32) (x5 : Int32) (x6 : Int32) (q : Int32 × tw_St), k212 σ a0 x1 x2 x4 x5 x6 = some q → tw_X p l e rmX8_goThrough s m args below meth c 8 G σ 0 0 (tw_Q below args s G 0 0 (some (.int q.1)) q.2) 212 [(0, .ref a0), (1, .int x1), (2, .int x2), (4, .int x4), (5, .int x5), (6, .int x6)] []) {σ : tw_St} {a0 : Nat} {x1 : Int32} {x2 : Int32} {x4 : Int32} {x5 : Int32} {x6 : Int32} {z0 : Int32} {z1 : Int32} {z2 : Nat} {q : Int32 × tw_St} (h : fX8_goThrough_b264 k183 k212 σ a0 x1 x2 x4 x5 x6 z0 z1 z2 = some q) : tw_X p l e rmX8_goThrough s m args below meth c 8 G σ 0 0 (tw_Q below args s G 0 0 (some (.int q.1)) q.2) 264 [(0, .ref a0), (1, .int x1), (2, .int x2), (4, .int x4), (5, .int x5), (6, .int x6)] [.int z0, .int z1, .ref z2] := by
  unfold fX8_goThrough_b264 at h
  refine tw_iadd hO dX8_goThrough_264 ?_
  refine tw_dup2 hO dX8_goThrough_265 rfl rfl ?_
  obtain ⟨v266, e266, h⟩ := tw_bd h
  refine tw_iald hO dX8_goThrough_266 e266 ?_
  refine tw_iconst (v := 1) hO dX8_goThrough_267 (by decide) ?_
  refine tw_iadd hO dX8_goThrough_268 ?_
  obtain ⟨σ269, e269, h⟩ := tw_bd h
  refine tw_iast hO dX8_goThrough_269 e269 ?_
  exact wX8_goThrough_b270 hO hk183 hk212 h
set_option maxRecDepth 100000 in
set_option maxHeartbeats 4000000 in
theorem wX8_goThrough_h212 (hO : tw_O p s m args meth c cX8_goThrough RX8 8 (some .int) G) {k183 : (tw_St → Nat → Int32 → Int32 → Int32 → Option (Int32 × tw_St))} {k212 : (tw_St → Nat → Int32 → Int32 → Int32 → Int32 → Int32 → Option (Int32 × tw_St))} (hk183 : ∀ (σ : tw_St) (a0 : Nat) (x1 : Int32) (x2 : Int32) (x4 : Int32) (q : Int32 × tw_St), k183 σ a0 x1 x2 x4 = some q → tw_X p l e rmX8_goThrough s m args below meth c 8 G σ 0 0 (tw_Q below args s G 0 0 (some (.int q.1)) q.2) 183 [(0, .ref a0), (1, .int x1), (2, .int x2), (4, .int x4)] []) (hk212 : ∀ (σ : tw_St) (a0 : Nat) (x1 : Int32) (x2 : Int32) (x4 : Int32) (x5 : Int32) (x6 : Int32) (q : Int32 × tw_St), k212 σ a0 x1 x2 x4 x5 x6 = some q → tw_X p l e rmX8_goThrough s m args below meth c 8 G σ 0 0 (tw_Q below args s G 0 0 (some (.int q.1)) q.2) 212 [(0, .ref a0), (1, .int x1), (2, .int x2), (4, .int x4), (5, .int x5), (6, .int x6)] []) {σ : tw_St} {a0 : Nat} {x1 : Int32} {x2 : Int32} {x4 : Int32} {x5 : Int32} {x6 : Int32} {q : Int32 × tw_St} (h : fX8_goThrough_h212 k183 k212 σ a0 x1 x2 x4 x5 x6 = some q) : tw_X p l e rmX8_goThrough s m args below meth c 8 G σ 0 0 (tw_Q below args s G 0 0 (some (.int q.1)) q.2) 212 [(0, .ref a0), (1, .int x1), (2, .int x2), (4, .int x4), (5, .int x5), (6, .int x6)] [] := by
  unfold fX8_goThrough_h212 at h
  refine tw_iload 5 hO dX8_goThrough_212 rfl ?_
  refine tw_iconst (v := 2) hO dX8_goThrough_214 (by decide) ?_
  refine tw_icmp_ge (tgt := 276) hO dX8_goThrough_215 (by decide) (fun cc => ?_) (fun cc => ?_)
  · replace h := tw_ifp cc h
    refine tw_sub [0, 1, 2, 3, 4] rfl ?_
    exact wX8_goThrough_b276 hO hk183 h
  · replace h := tw_ifn cc h
    refine tw_iload 5 hO dX8_goThrough_218 rfl ?_
    refine tw_iload 4 hO dX8_goThrough_220 rfl ?_
    refine tw_icmp_eq (tgt := 270) hO dX8_goThrough_222 (by decide) (fun cc => ?_) (fun cc => ?_)
    · replace h := tw_ifp cc h
      exact wX8_goThrough_b270 hO hk183 hk212 h
    · replace h := tw_ifn cc h
      refine tw_aload_n 0 hO dX8_goThrough_225 rfl rfl ?_
      refine tw_iload 5 hO dX8_goThrough_226 rfl ?_
      obtain ⟨v228, e228, h⟩ := tw_bd h
      refine tw_cVi hO (mX8_isOpen l G e228) cfX8_isOpen (t := 8) rfl (kX8_isOpen e228) tw_w755 tw_w757 tw_w33 rfl rfl rfl rfl ⟨(Nat.le_of_ble_eq_true rfl), (Nat.le_of_ble_eq_true rfl)⟩ (Nat.le_of_ble_eq_true rfl) ⟨(Nat.le_of_ble_eq_true rfl), (Nat.le_of_ble_eq_true rfl)⟩ dX8_goThrough_228 ?_
      refine tw_if_eq (tgt := 270) hO dX8_goThrough_231 (by decide) (fun cc => ?_) (fun cc => ?_)
      · replace h := tw_ifp cc h
        exact wX8_goThrough_b270 hO hk183 hk212 h
      · replace h := tw_ifn cc h
        refine tw_aload_n 0 hO dX8_goThrough_234 rfl rfl ?_
        refine tw_iload 5 hO dX8_goThrough_235 rfl ?_
        refine tw_iload 3 hO dX8_goThrough_237 rfl ?_
        refine tw_iload_n 2 hO dX8_goThrough_239 rfl rfl ?_
        obtain ⟨v240, e240, h⟩ := tw_bd h
        refine tw_cVi hO (mX8_whyNot l G e240) cfX8_whyNot (t := 8) rfl (kX8_whyNot e240) tw_w763 tw_w765 tw_w35 rfl rfl rfl rfl ⟨(Nat.le_of_ble_eq_true rfl), (Nat.le_of_ble_eq_true rfl)⟩ (Nat.le_of_ble_eq_true rfl) ⟨(Nat.le_of_ble_eq_true rfl), (Nat.le_of_ble_eq_true rfl)⟩ dX8_goThrough_240 ?_
        refine tw_istore (lv' := [(7, .int v240), (0, .ref a0), (1, .int x1), (2, .int x2), (4, .int x4), (5, .int x5), (6, .int x6)]) hO dX8_goThrough_243 (by decide) rfl ?_
        refine tw_aload_n 1 hO dX8_goThrough_245 rfl rfl ?_
        obtain ⟨v246, e246, h⟩ := tw_bd h
        refine tw_getP hO dX8_goThrough_246 (t := 8) rfl 20 (by decide) rfl tw_w615 rfl e246 ?_
        refine tw_iconst (v := 5) hO dX8_goThrough_249 (by decide) ?_
        refine tw_iload 6 hO dX8_goThrough_250 rfl ?_
        refine tw_imul hO dX8_goThrough_252 ?_
        refine tw_iload 0 hO dX8_goThrough_253 rfl ?_
        refine tw_if_ne (tgt := 262) hO dX8_goThrough_255 (by decide) (fun cc => ?_) (fun cc => ?_)
        · replace h := tw_ifn cc h
          refine tw_iload 0 hO dX8_goThrough_262 rfl ?_
          refine tw_sub [1, 2, 3, 4, 5, 6] rfl ?_
          exact wX8_goThrough_b264 hO hk183 hk212 h
        · replace h := tw_ifp cc h
          refine tw_iconst (v := 4) hO dX8_goThrough_258 (by decide) ?_
          refine tw_goto (tgt := 264) hO dX8_goThrough_259 (by decide) ?_
          refine tw_sub [1, 2, 3, 4, 5, 6] rfl ?_
          exact wX8_goThrough_b264 hO hk183 hk212 h
set_option maxRecDepth 100000 in
set_option maxHeartbeats 4000000 in
theorem wX8_goThrough_l212 (hO : tw_O p s m args meth c cX8_goThrough RX8 8 (some .int) G) {k183 : (tw_St → Nat → Int32 → Int32 → Int32 → Option (Int32 × tw_St))} (hk183 : ∀ (σ : tw_St) (a0 : Nat) (x1 : Int32) (x2 : Int32) (x4 : Int32) (q : Int32 × tw_St), k183 σ a0 x1 x2 x4 = some q → tw_X p l e rmX8_goThrough s m args below meth c 8 G σ 0 0 (tw_Q below args s G 0 0 (some (.int q.1)) q.2) 183 [(0, .ref a0), (1, .int x1), (2, .int x2), (4, .int x4)] []) : ∀ (n : Nat) (σ : tw_St) (a0 : Nat) (x1 : Int32) (x2 : Int32) (x4 : Int32) (x5 : Int32) (x6 : Int32) (q : Int32 × tw_St), fX8_goThrough_l212 k183 n σ a0 x1 x2 x4 x5 x6 = some q → tw_X p l e rmX8_goThrough s m args below meth c 8 G σ 0 0 (tw_Q below args s G 0 0 (some (.int q.1)) q.2) 212 [(0, .ref a0), (1, .int x1), (2, .int x2), (4, .int x4), (5, .int x5), (6, .int x6)] [] := by
  intro n
  induction n with
  | zero => intro _ _ _ _ _ _ _ q h; cases (show (none : Option (Int32 × tw_St)) = some q from h)
  | succ n ih => intro _ _ _ _ _ _ _ q h; exact wX8_goThrough_h212 hO hk183 ih h
set_option maxRecDepth 100000 in
set_option maxHeartbeats 4000000 in
theorem wX8_goThrough_b199 (hO : tw_O p s m args meth c cX8_goThrough RX8 8 (some .int) G) {k183 : (tw_St → Nat → Int32 → Int32 → Int32 → Option (Int32 × tw_St))} (hk183 : ∀ (σ : tw_St) (a0 : Nat) (x1 : Int32) (x2 : Int32) (x4 : Int32) (q : Int32 × tw_St), k183 σ a0 x1 x2 x4 = some q → tw_X p l e rmX8_goThrough s m args below meth c 8 G σ 0 0 (tw_Q below args s G 0 0 (some (.int q.1)) q.2) 183 [(0, .ref a0), (1, .int x1), (2, .int x2), (4, .int x4)] []) {σ : tw_St} {a0 : Nat} {x1 : Int32} {x2 : Int32} {x4 : Int32} {q : Int32 × tw_St} (h : fX8_goThrough_b199 k183 σ a0 x1 x2 x4 = some q) : tw_X p l e rmX8_goThrough s m args below meth c 8 G σ 0 0 (tw_Q below args s G 0 0 (some (.int q.1)) q.2) 199 [(0, .ref a0), (1, .int x1), (2, .int x2), (4, .int x4)] [] := by
  unfold fX8_goThrough_b199 at h
  refine tw_aload_n 0 hO dX8_goThrough_199 rfl rfl ?_
  refine tw_iload 3 hO dX8_goThrough_200 rfl ?_
  refine tw_iload_n 1 hO dX8_goThrough_202 rfl rfl ?_
  refine tw_iload_n 2 hO dX8_goThrough_203 rfl rfl ?_
  obtain ⟨v204, e204, h⟩ := tw_bd h
  refine tw_cVi hO (mX8_starter l G e204) cfX8_starter (t := 8) rfl (kX8_starter e204) tw_w759 tw_w761 tw_w34 rfl rfl rfl rfl ⟨(Nat.le_of_ble_eq_true rfl), (Nat.le_of_ble_eq_true rfl)⟩ (Nat.le_of_ble_eq_true rfl) ⟨(Nat.le_of_ble_eq_true rfl), (Nat.le_of_ble_eq_true rfl)⟩ dX8_goThrough_204 ?_
  refine tw_istore (lv' := [(5, .int v204), (0, .ref a0), (1, .int x1), (2, .int x2), (4, .int x4)]) hO dX8_goThrough_207 (by decide) rfl ?_
  refine tw_iconst (v := 0) hO dX8_goThrough_209 (by decide) ?_
  refine tw_istore (lv' := [(6, .int 0), (5, .int v204), (0, .ref a0), (1, .int x1), (2, .int x2), (4, .int x4)]) hO dX8_goThrough_210 (by decide) rfl ?_
  refine tw_sub [2, 3, 4, 5, 1, 0] rfl ?_
  exact wX8_goThrough_l212 hO hk183 _ _ _ _ _ _ _ _ _ h
set_option maxRecDepth 100000 in
set_option maxHeartbeats 4000000 in
theorem wX8_goThrough_b295 (hO : tw_O p s m args meth c cX8_goThrough RX8 8 (some .int) G) {σ : tw_St} {a0 : Nat} {q : Int32 × tw_St} (h : fX8_goThrough_b295 σ a0 = some q) : tw_X p l e rmX8_goThrough s m args below meth c 8 G σ 0 0 (tw_Q below args s G 0 0 (some (.int q.1)) q.2) 295 [(0, .ref a0)] [] := by
  unfold fX8_goThrough_b295 at h
  refine tw_aload_n 0 hO dX8_goThrough_295 rfl rfl ?_
  refine tw_iconst (v := 0) hO dX8_goThrough_296 (by decide) ?_
  obtain ⟨v297, e297, h⟩ := tw_bd h
  refine tw_cVi hO (mX8_lengthOf l G e297) cfX8_lengthOf (t := 8) rfl (kX8_lengthOf e297) tw_w794 tw_w796 tw_w42 rfl rfl rfl rfl ⟨(Nat.le_of_ble_eq_true rfl), (Nat.le_of_ble_eq_true rfl)⟩ (Nat.le_of_ble_eq_true rfl) ⟨(Nat.le_of_ble_eq_true rfl), (Nat.le_of_ble_eq_true rfl)⟩ dX8_goThrough_297 ?_
  refine tw_aload_n 0 hO dX8_goThrough_300 rfl rfl ?_
  refine tw_iconst (v := 1) hO dX8_goThrough_301 (by decide) ?_
  obtain ⟨v302, e302, h⟩ := tw_bd h
  refine tw_cVi hO (mX8_lengthOf l G e302) cfX8_lengthOf (t := 8) rfl (kX8_lengthOf e302) tw_w794 tw_w796 tw_w42 rfl rfl rfl rfl ⟨(Nat.le_of_ble_eq_true rfl), (Nat.le_of_ble_eq_true rfl)⟩ (Nat.le_of_ble_eq_true rfl) ⟨(Nat.le_of_ble_eq_true rfl), (Nat.le_of_ble_eq_true rfl)⟩ dX8_goThrough_302 ?_
  refine tw_icmp_le (tgt := 316) hO dX8_goThrough_305 (by decide) (fun cc => ?_) (fun cc => ?_)
  · replace h := tw_ifp cc h
    refine tw_aload_n 0 hO dX8_goThrough_316 rfl rfl ?_
    refine tw_iconst (v := 1) hO dX8_goThrough_317 (by decide) ?_
    obtain ⟨v318, e318, h⟩ := tw_bd h
    refine tw_cVi hO (mX8_lengthOf l G e318) cfX8_lengthOf (t := 8) rfl (kX8_lengthOf e318) tw_w794 tw_w796 tw_w42 rfl rfl rfl rfl ⟨(Nat.le_of_ble_eq_true rfl), (Nat.le_of_ble_eq_true rfl)⟩ (Nat.le_of_ble_eq_true rfl) ⟨(Nat.le_of_ble_eq_true rfl), (Nat.le_of_ble_eq_true rfl)⟩ dX8_goThrough_318 ?_
    exact tw_iret hO dX8_goThrough_321 h
  · replace h := tw_ifn cc h
    refine tw_aload_n 0 hO dX8_goThrough_308 rfl rfl ?_
    refine tw_iconst (v := 0) hO dX8_goThrough_309 (by decide) ?_
    obtain ⟨v310, e310, h⟩ := tw_bd h
    refine tw_cVi hO (mX8_lengthOf l G e310) cfX8_lengthOf (t := 8) rfl (kX8_lengthOf e310) tw_w794 tw_w796 tw_w42 rfl rfl rfl rfl ⟨(Nat.le_of_ble_eq_true rfl), (Nat.le_of_ble_eq_true rfl)⟩ (Nat.le_of_ble_eq_true rfl) ⟨(Nat.le_of_ble_eq_true rfl), (Nat.le_of_ble_eq_true rfl)⟩ dX8_goThrough_310 ?_
    refine tw_goto (tgt := 321) hO dX8_goThrough_313 (by decide) ?_
    exact tw_iret hO dX8_goThrough_321 h
set_option maxRecDepth 100000 in
set_option maxHeartbeats 4000000 in
theorem wX8_goThrough_h183 (hO : tw_O p s m args meth c cX8_goThrough RX8 8 (some .int) G) {k183 : (tw_St → Nat → Int32 → Int32 → Int32 → Option (Int32 × tw_St))} (hk183 : ∀ (σ : tw_St) (a0 : Nat) (x1 : Int32) (x2 : Int32) (x4 : Int32) (q : Int32 × tw_St), k183 σ a0 x1 x2 x4 = some q → tw_X p l e rmX8_goThrough s m args below meth c 8 G σ 0 0 (tw_Q below args s G 0 0 (some (.int q.1)) q.2) 183 [(0, .ref a0), (1, .int x1), (2, .int x2), (4, .int x4)] []) {σ : tw_St} {a0 : Nat} {x1 : Int32} {x2 : Int32} {x4 : Int32} {q : Int32 × tw_St} (h : fX8_goThrough_h183 k183 σ a0 x1 x2 x4 = some q) : tw_X p l e rmX8_goThrough s m args below meth c 8 G σ 0 0 (tw_Q below args s G 0 0 (some (.int q.1)) q.2) 183 [(0, .ref a0), (1, .int x1), (2, .int x2), (4, .int x4)] [] := by
  unfold fX8_goThrough_h183 at h
  refine tw_aload_n 0 hO dX8_goThrough_183 rfl rfl ?_
  refine tw_iconst (v := 0) hO dX8_goThrough_184 (by decide) ?_
  obtain ⟨v185, e185, h⟩ := tw_bd h
  refine tw_cVi hO (mX8_isOpen l G e185) cfX8_isOpen (t := 8) rfl (kX8_isOpen e185) tw_w755 tw_w757 tw_w33 rfl rfl rfl rfl ⟨(Nat.le_of_ble_eq_true rfl), (Nat.le_of_ble_eq_true rfl)⟩ (Nat.le_of_ble_eq_true rfl) ⟨(Nat.le_of_ble_eq_true rfl), (Nat.le_of_ble_eq_true rfl)⟩ dX8_goThrough_185 ?_
  refine tw_if_ne (tgt := 199) hO dX8_goThrough_188 (by decide) (fun cc => ?_) (fun cc => ?_)
  · replace h := tw_ifn cc h
    exact wX8_goThrough_b199 hO hk183 h
  · replace h := tw_ifp cc h
    refine tw_aload_n 0 hO dX8_goThrough_191 rfl rfl ?_
    refine tw_iconst (v := 1) hO dX8_goThrough_192 (by decide) ?_
    obtain ⟨v193, e193, h⟩ := tw_bd h
    refine tw_cVi hO (mX8_isOpen l G e193) cfX8_isOpen (t := 8) rfl (kX8_isOpen e193) tw_w755 tw_w757 tw_w33 rfl rfl rfl rfl ⟨(Nat.le_of_ble_eq_true rfl), (Nat.le_of_ble_eq_true rfl)⟩ (Nat.le_of_ble_eq_true rfl) ⟨(Nat.le_of_ble_eq_true rfl), (Nat.le_of_ble_eq_true rfl)⟩ dX8_goThrough_193 ?_
    refine tw_if_eq (tgt := 295) hO dX8_goThrough_196 (by decide) (fun cc => ?_) (fun cc => ?_)
    · replace h := tw_ifp cc h
      refine tw_sub [0] rfl ?_
      exact wX8_goThrough_b295 hO h
    · replace h := tw_ifn cc h
      exact wX8_goThrough_b199 hO hk183 h
set_option maxRecDepth 100000 in
set_option maxHeartbeats 4000000 in
theorem wX8_goThrough_l183 (hO : tw_O p s m args meth c cX8_goThrough RX8 8 (some .int) G) : ∀ (n : Nat) (σ : tw_St) (a0 : Nat) (x1 : Int32) (x2 : Int32) (x4 : Int32) (q : Int32 × tw_St), fX8_goThrough_l183 n σ a0 x1 x2 x4 = some q → tw_X p l e rmX8_goThrough s m args below meth c 8 G σ 0 0 (tw_Q below args s G 0 0 (some (.int q.1)) q.2) 183 [(0, .ref a0), (1, .int x1), (2, .int x2), (4, .int x4)] [] := by
  intro n
  induction n with
  | zero => intro _ _ _ _ _ q h; cases (show (none : Option (Int32 × tw_St)) = some q from h)
  | succ n ih => intro _ _ _ _ _ q h; exact wX8_goThrough_h183 hO ih h
set_option maxRecDepth 100000 in
set_option maxHeartbeats 4000000 in
theorem wX8_goThrough_b180 (hO : tw_O p s m args meth c cX8_goThrough RX8 8 (some .int) G) {σ : tw_St} {a0 : Nat} {x1 : Int32} {x2 : Int32} {q : Int32 × tw_St} (h : fX8_goThrough_b180 σ a0 x1 x2 = some q) : tw_X p l e rmX8_goThrough s m args below meth c 8 G σ 0 0 (tw_Q below args s G 0 0 (some (.int q.1)) q.2) 180 [(0, .ref a0), (1, .int x1), (2, .int x2)] [] := by
  unfold fX8_goThrough_b180 at h
  refine tw_iconst (v := 0) hO dX8_goThrough_180 (by decide) ?_
  refine tw_istore (lv' := [(4, .int 0), (0, .ref a0), (1, .int x1), (2, .int x2)]) hO dX8_goThrough_181 (by decide) rfl ?_
  refine tw_sub [1, 2, 3, 0] rfl ?_
  exact wX8_goThrough_l183 hO _ _ _ _ _ _ _ h
set_option maxRecDepth 100000 in
set_option maxHeartbeats 4000000 in
theorem wX8_goThrough_b174 (hO : tw_O p s m args meth c cX8_goThrough RX8 8 (some .int) G) {k3 : (tw_St → Nat → Int32 → Int32 → Int32 → Int32 → Option (Int32 × tw_St))} (hk3 : ∀ (σ : tw_St) (a0 : Nat) (x1 : Int32) (x2 : Int32) (x3 : Int32) (x4 : Int32) (q : Int32 × tw_St), k3 σ a0 x1 x2 x3 x4 = some q → tw_X p l e rmX8_goThrough s m args below meth c 8 G σ 0 0 (tw_Q below args s G 0 0 (some (.int q.1)) q.2) 3 [(0, .ref a0), (1, .int x1), (2, .int x2), (3, .int x3), (4, .int x4)] []) {σ : tw_St} {a0 : Nat} {x1 : Int32} {x2 : Int32} {x3 : Int32} {x4 : Int32} {q : Int32 × tw_St} (h : fX8_goThrough_b174 k3 σ a0 x1 x2 x3 x4 = some q) : tw_X p l e rmX8_goThrough s m args below meth c 8 G σ 0 0 (tw_Q below args s G 0 0 (some (.int q.1)) q.2) 174 [(0, .ref a0), (1, .int x1), (2, .int x2), (3, .int x3), (4, .int x4)] [] := by
  unfold fX8_goThrough_b174 at h
  refine tw_iinc (q := 4) (v := (x4 + 1)) (lv' := [(4, .int (x4 + 1)), (0, .ref a0), (1, .int x1), (2, .int x2), (3, .int x3)]) hO dX8_goThrough_174 rfl rfl (by decide) rfl ?_
  refine tw_goto (tgt := 3) hO dX8_goThrough_177 (by decide) ?_
  refine tw_sub [1, 2, 3, 4, 0] rfl ?_
  exact hk3 _ _ _ _ _ _ _ h
set_option maxRecDepth 100000 in
set_option maxHeartbeats 4000000 in
theorem wX8_goThrough_h136 (hO : tw_O p s m args meth c cX8_goThrough RX8 8 (some .int) G) {k3 : (tw_St → Nat → Int32 → Int32 → Int32 → Int32 → Option (Int32 × tw_St))} {k136 : (tw_St → Nat → Int32 → Int32 → Int32 → Int32 → Int32 → Option (Int32 × tw_St))} (hk3 : ∀ (σ : tw_St) (a0 : Nat) (x1 : Int32) (x2 : Int32) (x3 : Int32) (x4 : Int32) (q : Int32 × tw_St), k3 σ a0 x1 x2 x3 x4 = some q → tw_X p l e rmX8_goThrough s m args below meth c 8 G σ 0 0 (tw_Q below args s G 0 0 (some (.int q.1)) q.2) 3 [(0, .ref a0), (1, .int x1), (2, .int x2), (3, .int x3), (4, .int x4)] []) (hk136 : ∀ (σ : tw_St) (a0 : Nat) (x1 : Int32) (x2 : Int32) (x3 : Int32) (x4 : Int32) (x5 : Int32) (q : Int32 × tw_St), k136 σ a0 x1 x2 x3 x4 x5 = some q → tw_X p l e rmX8_goThrough s m args below meth c 8 G σ 0 0 (tw_Q below args s G 0 0 (some (.int q.1)) q.2) 136 [(0, .ref a0), (1, .int x1), (2, .int x2), (3, .int x3), (4, .int x4), (5, .int x5)] []) {σ : tw_St} {a0 : Nat} {x1 : Int32} {x2 : Int32} {x3 : Int32} {x4 : Int32} {x5 : Int32} {q : Int32 × tw_St} (h : fX8_goThrough_h136 k3 k136 σ a0 x1 x2 x3 x4 x5 = some q) : tw_X p l e rmX8_goThrough s m args below meth c 8 G σ 0 0 (tw_Q below args s G 0 0 (some (.int q.1)) q.2) 136 [(0, .ref a0), (1, .int x1), (2, .int x2), (3, .int x3), (4, .int x4), (5, .int x5)] [] := by
  unfold fX8_goThrough_h136 at h
  refine tw_iload 5 hO dX8_goThrough_136 rfl ?_
  refine tw_iconst (v := 5) hO dX8_goThrough_138 (by decide) ?_
  refine tw_icmp_ge (tgt := 174) hO dX8_goThrough_139 (by decide) (fun cc => ?_) (fun cc => ?_)
  · replace h := tw_ifp cc h
    refine tw_sub [0, 1, 2, 3, 4] rfl ?_
    exact wX8_goThrough_b174 hO hk3 h
  · replace h := tw_ifn cc h
    refine tw_aload_n 0 hO dX8_goThrough_142 rfl rfl ?_
    obtain ⟨v143, e143, h⟩ := tw_bd h
    refine tw_getP hO dX8_goThrough_143 (t := 8) rfl 19 (by decide) rfl tw_w614 rfl e143 ?_
    refine tw_iconst (v := 5) hO dX8_goThrough_146 (by decide) ?_
    refine tw_iload 4 hO dX8_goThrough_147 rfl ?_
    refine tw_imul hO dX8_goThrough_149 ?_
    refine tw_iload 5 hO dX8_goThrough_150 rfl ?_
    refine tw_iadd hO dX8_goThrough_152 ?_
    refine tw_iconst (v := 0) hO dX8_goThrough_153 (by decide) ?_
    obtain ⟨σ154, e154, h⟩ := tw_bd h
    refine tw_iast hO dX8_goThrough_154 e154 ?_
    refine tw_aload_n 0 hO dX8_goThrough_155 rfl rfl ?_
    obtain ⟨v156, e156, h⟩ := tw_bd h
    refine tw_getP hO dX8_goThrough_156 (t := 8) rfl 20 (by decide) rfl tw_w615 rfl e156 ?_
    refine tw_iconst (v := 5) hO dX8_goThrough_159 (by decide) ?_
    refine tw_iload 4 hO dX8_goThrough_160 rfl ?_
    refine tw_imul hO dX8_goThrough_162 ?_
    refine tw_iload 5 hO dX8_goThrough_163 rfl ?_
    refine tw_iadd hO dX8_goThrough_165 ?_
    refine tw_iconst (v := 0) hO dX8_goThrough_166 (by decide) ?_
    obtain ⟨σ167, e167, h⟩ := tw_bd h
    refine tw_iast hO dX8_goThrough_167 e167 ?_
    refine tw_iinc (q := 5) (v := (x5 + 1)) (lv' := [(5, .int (x5 + 1)), (0, .ref a0), (1, .int x1), (2, .int x2), (3, .int x3), (4, .int x4)]) hO dX8_goThrough_168 rfl rfl (by decide) rfl ?_
    refine tw_goto (tgt := 136) hO dX8_goThrough_171 (by decide) ?_
    refine tw_sub [1, 2, 3, 4, 5, 0] rfl ?_
    exact hk136 _ _ _ _ _ _ _ _ h
set_option maxRecDepth 100000 in
set_option maxHeartbeats 4000000 in
theorem wX8_goThrough_l136 (hO : tw_O p s m args meth c cX8_goThrough RX8 8 (some .int) G) {k3 : (tw_St → Nat → Int32 → Int32 → Int32 → Int32 → Option (Int32 × tw_St))} (hk3 : ∀ (σ : tw_St) (a0 : Nat) (x1 : Int32) (x2 : Int32) (x3 : Int32) (x4 : Int32) (q : Int32 × tw_St), k3 σ a0 x1 x2 x3 x4 = some q → tw_X p l e rmX8_goThrough s m args below meth c 8 G σ 0 0 (tw_Q below args s G 0 0 (some (.int q.1)) q.2) 3 [(0, .ref a0), (1, .int x1), (2, .int x2), (3, .int x3), (4, .int x4)] []) : ∀ (n : Nat) (σ : tw_St) (a0 : Nat) (x1 : Int32) (x2 : Int32) (x3 : Int32) (x4 : Int32) (x5 : Int32) (q : Int32 × tw_St), fX8_goThrough_l136 k3 n σ a0 x1 x2 x3 x4 x5 = some q → tw_X p l e rmX8_goThrough s m args below meth c 8 G σ 0 0 (tw_Q below args s G 0 0 (some (.int q.1)) q.2) 136 [(0, .ref a0), (1, .int x1), (2, .int x2), (3, .int x3), (4, .int x4), (5, .int x5)] [] := by
  intro n
  induction n with
  | zero => intro _ _ _ _ _ _ _ q h; cases (show (none : Option (Int32 × tw_St)) = some q from h)
  | succ n ih => intro _ _ _ _ _ _ _ q h; exact wX8_goThrough_h136 hO hk3 ih h
set_option maxRecDepth 100000 in
set_option maxHeartbeats 4000000 in
theorem wX8_goThrough_b133 (hO : tw_O p s m args meth c cX8_goThrough RX8 8 (some .int) G) {k3 : (tw_St → Nat → Int32 → Int32 → Int32 → Int32 → Option (Int32 × tw_St))} (hk3 : ∀ (σ : tw_St) (a0 : Nat) (x1 : Int32) (x2 : Int32) (x3 : Int32) (x4 : Int32) (q : Int32 × tw_St), k3 σ a0 x1 x2 x3 x4 = some q → tw_X p l e rmX8_goThrough s m args below meth c 8 G σ 0 0 (tw_Q below args s G 0 0 (some (.int q.1)) q.2) 3 [(0, .ref a0), (1, .int x1), (2, .int x2), (3, .int x3), (4, .int x4)] []) {σ : tw_St} {a0 : Nat} {x1 : Int32} {x2 : Int32} {x3 : Int32} {x4 : Int32} {q : Int32 × tw_St} (h : fX8_goThrough_b133 k3 σ a0 x1 x2 x3 x4 = some q) : tw_X p l e rmX8_goThrough s m args below meth c 8 G σ 0 0 (tw_Q below args s G 0 0 (some (.int q.1)) q.2) 133 [(0, .ref a0), (1, .int x1), (2, .int x2), (3, .int x3), (4, .int x4)] [] := by
  unfold fX8_goThrough_b133 at h
  refine tw_iconst (v := 0) hO dX8_goThrough_133 (by decide) ?_
  refine tw_istore (lv' := [(5, .int 0), (0, .ref a0), (1, .int x1), (2, .int x2), (3, .int x3), (4, .int x4)]) hO dX8_goThrough_134 (by decide) rfl ?_
  refine tw_sub [1, 2, 3, 4, 5, 0] rfl ?_
  exact wX8_goThrough_l136 hO hk3 _ _ _ _ _ _ _ _ _ h
set_option maxRecDepth 100000 in
set_option maxHeartbeats 4000000 in
theorem wX8_goThrough_h108 (hO : tw_O p s m args meth c cX8_goThrough RX8 8 (some .int) G) {k3 : (tw_St → Nat → Int32 → Int32 → Int32 → Int32 → Option (Int32 × tw_St))} {k108 : (tw_St → Nat → Int32 → Int32 → Int32 → Int32 → Int32 → Option (Int32 × tw_St))} (hk3 : ∀ (σ : tw_St) (a0 : Nat) (x1 : Int32) (x2 : Int32) (x3 : Int32) (x4 : Int32) (q : Int32 × tw_St), k3 σ a0 x1 x2 x3 x4 = some q → tw_X p l e rmX8_goThrough s m args below meth c 8 G σ 0 0 (tw_Q below args s G 0 0 (some (.int q.1)) q.2) 3 [(0, .ref a0), (1, .int x1), (2, .int x2), (3, .int x3), (4, .int x4)] []) (hk108 : ∀ (σ : tw_St) (a0 : Nat) (x1 : Int32) (x2 : Int32) (x3 : Int32) (x4 : Int32) (x5 : Int32) (q : Int32 × tw_St), k108 σ a0 x1 x2 x3 x4 x5 = some q → tw_X p l e rmX8_goThrough s m args below meth c 8 G σ 0 0 (tw_Q below args s G 0 0 (some (.int q.1)) q.2) 108 [(0, .ref a0), (1, .int x1), (2, .int x2), (3, .int x3), (4, .int x4), (5, .int x5)] []) {σ : tw_St} {a0 : Nat} {x1 : Int32} {x2 : Int32} {x3 : Int32} {x4 : Int32} {x5 : Int32} {q : Int32 × tw_St} (h : fX8_goThrough_h108 k3 k108 σ a0 x1 x2 x3 x4 x5 = some q) : tw_X p l e rmX8_goThrough s m args below meth c 8 G σ 0 0 (tw_Q below args s G 0 0 (some (.int q.1)) q.2) 108 [(0, .ref a0), (1, .int x1), (2, .int x2), (3, .int x3), (4, .int x4), (5, .int x5)] [] := by
  unfold fX8_goThrough_h108 at h
  refine tw_iload 5 hO dX8_goThrough_108 rfl ?_
  refine tw_iconst (v := 4) hO dX8_goThrough_110 (by decide) ?_
  refine tw_icmp_ge (tgt := 133) hO dX8_goThrough_111 (by decide) (fun cc => ?_) (fun cc => ?_)
  · replace h := tw_ifp cc h
    refine tw_sub [0, 1, 2, 3, 4] rfl ?_
    exact wX8_goThrough_b133 hO hk3 h
  · replace h := tw_ifn cc h
    refine tw_aload_n 0 hO dX8_goThrough_114 rfl rfl ?_
    obtain ⟨v115, e115, h⟩ := tw_bd h
    refine tw_getP hO dX8_goThrough_115 (t := 8) rfl 12 (by decide) rfl tw_w607 rfl e115 ?_
    refine tw_iconst (v := 4) hO dX8_goThrough_118 (by decide) ?_
    refine tw_iload 4 hO dX8_goThrough_119 rfl ?_
    refine tw_imul hO dX8_goThrough_121 ?_
    refine tw_iload 5 hO dX8_goThrough_122 rfl ?_
    refine tw_iadd hO dX8_goThrough_124 ?_
    refine tw_iconst (v := 0) hO dX8_goThrough_125 (by decide) ?_
    obtain ⟨σ126, e126, h⟩ := tw_bd h
    refine tw_iast hO dX8_goThrough_126 e126 ?_
    refine tw_iinc (q := 5) (v := (x5 + 1)) (lv' := [(5, .int (x5 + 1)), (0, .ref a0), (1, .int x1), (2, .int x2), (3, .int x3), (4, .int x4)]) hO dX8_goThrough_127 rfl rfl (by decide) rfl ?_
    refine tw_goto (tgt := 108) hO dX8_goThrough_130 (by decide) ?_
    refine tw_sub [1, 2, 3, 4, 5, 0] rfl ?_
    exact hk108 _ _ _ _ _ _ _ _ h
set_option maxRecDepth 100000 in
set_option maxHeartbeats 4000000 in
theorem wX8_goThrough_l108 (hO : tw_O p s m args meth c cX8_goThrough RX8 8 (some .int) G) {k3 : (tw_St → Nat → Int32 → Int32 → Int32 → Int32 → Option (Int32 × tw_St))} (hk3 : ∀ (σ : tw_St) (a0 : Nat) (x1 : Int32) (x2 : Int32) (x3 : Int32) (x4 : Int32) (q : Int32 × tw_St), k3 σ a0 x1 x2 x3 x4 = some q → tw_X p l e rmX8_goThrough s m args below meth c 8 G σ 0 0 (tw_Q below args s G 0 0 (some (.int q.1)) q.2) 3 [(0, .ref a0), (1, .int x1), (2, .int x2), (3, .int x3), (4, .int x4)] []) : ∀ (n : Nat) (σ : tw_St) (a0 : Nat) (x1 : Int32) (x2 : Int32) (x3 : Int32) (x4 : Int32) (x5 : Int32) (q : Int32 × tw_St), fX8_goThrough_l108 k3 n σ a0 x1 x2 x3 x4 x5 = some q → tw_X p l e rmX8_goThrough s m args below meth c 8 G σ 0 0 (tw_Q below args s G 0 0 (some (.int q.1)) q.2) 108 [(0, .ref a0), (1, .int x1), (2, .int x2), (3, .int x3), (4, .int x4), (5, .int x5)] [] := by
  intro n
  induction n with
  | zero => intro _ _ _ _ _ _ _ q h; cases (show (none : Option (Int32 × tw_St)) = some q from h)
  | succ n ih => intro _ _ _ _ _ _ _ q h; exact wX8_goThrough_h108 hO hk3 ih h
set_option maxRecDepth 100000 in
set_option maxHeartbeats 4000000 in
theorem wX8_goThrough_b105 (hO : tw_O p s m args meth c cX8_goThrough RX8 8 (some .int) G) {k3 : (tw_St → Nat → Int32 → Int32 → Int32 → Int32 → Option (Int32 × tw_St))} (hk3 : ∀ (σ : tw_St) (a0 : Nat) (x1 : Int32) (x2 : Int32) (x3 : Int32) (x4 : Int32) (q : Int32 × tw_St), k3 σ a0 x1 x2 x3 x4 = some q → tw_X p l e rmX8_goThrough s m args below meth c 8 G σ 0 0 (tw_Q below args s G 0 0 (some (.int q.1)) q.2) 3 [(0, .ref a0), (1, .int x1), (2, .int x2), (3, .int x3), (4, .int x4)] []) {σ : tw_St} {a0 : Nat} {x1 : Int32} {x2 : Int32} {x3 : Int32} {x4 : Int32} {q : Int32 × tw_St} (h : fX8_goThrough_b105 k3 σ a0 x1 x2 x3 x4 = some q) : tw_X p l e rmX8_goThrough s m args below meth c 8 G σ 0 0 (tw_Q below args s G 0 0 (some (.int q.1)) q.2) 105 [(0, .ref a0), (1, .int x1), (2, .int x2), (3, .int x3), (4, .int x4)] [] := by
  unfold fX8_goThrough_b105 at h
  refine tw_iconst (v := 0) hO dX8_goThrough_105 (by decide) ?_
  refine tw_istore (lv' := [(5, .int 0), (0, .ref a0), (1, .int x1), (2, .int x2), (3, .int x3), (4, .int x4)]) hO dX8_goThrough_106 (by decide) rfl ?_
  refine tw_sub [1, 2, 3, 4, 5, 0] rfl ?_
  exact wX8_goThrough_l108 hO hk3 _ _ _ _ _ _ _ _ _ h
set_option maxRecDepth 100000 in
set_option maxHeartbeats 4000000 in
theorem wX8_goThrough_h60 (hO : tw_O p s m args meth c cX8_goThrough RX8 8 (some .int) G) {k3 : (tw_St → Nat → Int32 → Int32 → Int32 → Int32 → Option (Int32 × tw_St))} {k60 : (tw_St → Nat → Int32 → Int32 → Int32 → Int32 → Int32 → Option (Int32 × tw_St))} (hk3 : ∀ (σ : tw_St) (a0 : Nat) (x1 : Int32) (x2 : Int32) (x3 : Int32) (x4 : Int32) (q : Int32 × tw_St), k3 σ a0 x1 x2 x3 x4 = some q → tw_X p l e rmX8_goThrough s m args below meth c 8 G σ 0 0 (tw_Q below args s G 0 0 (some (.int q.1)) q.2) 3 [(0, .ref a0), (1, .int x1), (2, .int x2), (3, .int x3), (4, .int x4)] []) (hk60 : ∀ (σ : tw_St) (a0 : Nat) (x1 : Int32) (x2 : Int32) (x3 : Int32) (x4 : Int32) (x5 : Int32) (q : Int32 × tw_St), k60 σ a0 x1 x2 x3 x4 x5 = some q → tw_X p l e rmX8_goThrough s m args below meth c 8 G σ 0 0 (tw_Q below args s G 0 0 (some (.int q.1)) q.2) 60 [(0, .ref a0), (1, .int x1), (2, .int x2), (3, .int x3), (4, .int x4), (5, .int x5)] []) {σ : tw_St} {a0 : Nat} {x1 : Int32} {x2 : Int32} {x3 : Int32} {x4 : Int32} {x5 : Int32} {q : Int32 × tw_St} (h : fX8_goThrough_h60 k3 k60 σ a0 x1 x2 x3 x4 x5 = some q) : tw_X p l e rmX8_goThrough s m args below meth c 8 G σ 0 0 (tw_Q below args s G 0 0 (some (.int q.1)) q.2) 60 [(0, .ref a0), (1, .int x1), (2, .int x2), (3, .int x3), (4, .int x4), (5, .int x5)] [] := by
  unfold fX8_goThrough_h60 at h
  refine tw_iload 5 hO dX8_goThrough_60 rfl ?_
  refine tw_bipush (v := 12) hO dX8_goThrough_62 (by decide) ?_
  refine tw_icmp_ge (tgt := 105) hO dX8_goThrough_64 (by decide) (fun cc => ?_) (fun cc => ?_)
  · replace h := tw_ifp cc h
    refine tw_sub [0, 1, 2, 3, 4] rfl ?_
    exact wX8_goThrough_b105 hO hk3 h
  · replace h := tw_ifn cc h
    refine tw_aload_n 0 hO dX8_goThrough_67 rfl rfl ?_
    obtain ⟨v68, e68, h⟩ := tw_bd h
    refine tw_getP hO dX8_goThrough_68 (t := 8) rfl 11 (by decide) rfl tw_w606 rfl e68 ?_
    refine tw_bipush (v := 12) hO dX8_goThrough_71 (by decide) ?_
    refine tw_iload 4 hO dX8_goThrough_73 rfl ?_
    refine tw_imul hO dX8_goThrough_75 ?_
    refine tw_iload 5 hO dX8_goThrough_76 rfl ?_
    refine tw_iadd hO dX8_goThrough_78 ?_
    refine tw_aload_n 0 hO dX8_goThrough_79 rfl rfl ?_
    obtain ⟨v80, e80, h⟩ := tw_bd h
    refine tw_getP hO dX8_goThrough_80 (t := 8) rfl 0 (by decide) rfl tw_w595 rfl e80 ?_
    refine tw_bipush (v := 10) hO dX8_goThrough_83 (by decide) ?_
    refine tw_bipush (v := 100) hO dX8_goThrough_85 (by decide) ?_
    refine tw_iload 4 hO dX8_goThrough_87 rfl ?_
    refine tw_imul hO dX8_goThrough_89 ?_
    refine tw_iadd hO dX8_goThrough_90 ?_
    refine tw_bipush (v := 70) hO dX8_goThrough_91 (by decide) ?_
    refine tw_iadd hO dX8_goThrough_93 ?_
    refine tw_iload 5 hO dX8_goThrough_94 rfl ?_
    refine tw_iadd hO dX8_goThrough_96 ?_
    obtain ⟨v97, e97, h⟩ := tw_bd h
    refine tw_iald hO dX8_goThrough_97 e97 ?_
    obtain ⟨σ98, e98, h⟩ := tw_bd h
    refine tw_iast hO dX8_goThrough_98 e98 ?_
    refine tw_iinc (q := 5) (v := (x5 + 1)) (lv' := [(5, .int (x5 + 1)), (0, .ref a0), (1, .int x1), (2, .int x2), (3, .int x3), (4, .int x4)]) hO dX8_goThrough_99 rfl rfl (by decide) rfl ?_
    refine tw_goto (tgt := 60) hO dX8_goThrough_102 (by decide) ?_
    refine tw_sub [1, 2, 3, 4, 5, 0] rfl ?_
    exact hk60 _ _ _ _ _ _ _ _ h
set_option maxRecDepth 100000 in
set_option maxHeartbeats 4000000 in
theorem wX8_goThrough_l60 (hO : tw_O p s m args meth c cX8_goThrough RX8 8 (some .int) G) {k3 : (tw_St → Nat → Int32 → Int32 → Int32 → Int32 → Option (Int32 × tw_St))} (hk3 : ∀ (σ : tw_St) (a0 : Nat) (x1 : Int32) (x2 : Int32) (x3 : Int32) (x4 : Int32) (q : Int32 × tw_St), k3 σ a0 x1 x2 x3 x4 = some q → tw_X p l e rmX8_goThrough s m args below meth c 8 G σ 0 0 (tw_Q below args s G 0 0 (some (.int q.1)) q.2) 3 [(0, .ref a0), (1, .int x1), (2, .int x2), (3, .int x3), (4, .int x4)] []) : ∀ (n : Nat) (σ : tw_St) (a0 : Nat) (x1 : Int32) (x2 : Int32) (x3 : Int32) (x4 : Int32) (x5 : Int32) (q : Int32 × tw_St), fX8_goThrough_l60 k3 n σ a0 x1 x2 x3 x4 x5 = some q → tw_X p l e rmX8_goThrough s m args below meth c 8 G σ 0 0 (tw_Q below args s G 0 0 (some (.int q.1)) q.2) 60 [(0, .ref a0), (1, .int x1), (2, .int x2), (3, .int x3), (4, .int x4), (5, .int x5)] [] := by
  intro n
  induction n with
  | zero => intro _ _ _ _ _ _ _ q h; cases (show (none : Option (Int32 × tw_St)) = some q from h)
  | succ n ih => intro _ _ _ _ _ _ _ q h; exact wX8_goThrough_h60 hO hk3 ih h
set_option maxRecDepth 100000 in
set_option maxHeartbeats 4000000 in
theorem wX8_goThrough_b39 (hO : tw_O p s m args meth c cX8_goThrough RX8 8 (some .int) G) {k3 : (tw_St → Nat → Int32 → Int32 → Int32 → Int32 → Option (Int32 × tw_St))} (hk3 : ∀ (σ : tw_St) (a0 : Nat) (x1 : Int32) (x2 : Int32) (x3 : Int32) (x4 : Int32) (q : Int32 × tw_St), k3 σ a0 x1 x2 x3 x4 = some q → tw_X p l e rmX8_goThrough s m args below meth c 8 G σ 0 0 (tw_Q below args s G 0 0 (some (.int q.1)) q.2) 3 [(0, .ref a0), (1, .int x1), (2, .int x2), (3, .int x3), (4, .int x4)] []) {σ : tw_St} {a0 : Nat} {x1 : Int32} {x2 : Int32} {x3 : Int32} {x4 : Int32} {z0 : Int32} {z1 : Int32} {z2 : Nat} {q : Int32 × tw_St} (h : fX8_goThrough_b39 k3 σ a0 x1 x2 x3 x4 z0 z1 z2 = some q) : tw_X p l e rmX8_goThrough s m args below meth c 8 G σ 0 0 (tw_Q below args s G 0 0 (some (.int q.1)) q.2) 39 [(0, .ref a0), (1, .int x1), (2, .int x2), (3, .int x3), (4, .int x4)] [.int z0, .int z1, .ref z2] := by
  unfold fX8_goThrough_b39 at h
  obtain ⟨σ39, e39, h⟩ := tw_bd h
  refine tw_iast hO dX8_goThrough_39 e39 ?_
  refine tw_aload_n 0 hO dX8_goThrough_40 rfl rfl ?_
  obtain ⟨v41, e41, h⟩ := tw_bd h
  refine tw_getP hO dX8_goThrough_41 (t := 8) rfl 21 (by decide) rfl tw_w616 rfl e41 ?_
  refine tw_iload 4 hO dX8_goThrough_44 rfl ?_
  refine tw_iconst (v := 0) hO dX8_goThrough_46 (by decide) ?_
  obtain ⟨σ47, e47, h⟩ := tw_bd h
  refine tw_iast hO dX8_goThrough_47 e47 ?_
  refine tw_aload_n 0 hO dX8_goThrough_48 rfl rfl ?_
  obtain ⟨v49, e49, h⟩ := tw_bd h
  refine tw_getP hO dX8_goThrough_49 (t := 8) rfl 22 (by decide) rfl tw_w617 rfl e49 ?_
  refine tw_iload 4 hO dX8_goThrough_52 rfl ?_
  refine tw_bipush (v := (-6)) hO dX8_goThrough_54 (by decide) ?_
  obtain ⟨σ56, e56, h⟩ := tw_bd h
  refine tw_iast hO dX8_goThrough_56 e56 ?_
  refine tw_iconst (v := 0) hO dX8_goThrough_57 (by decide) ?_
  refine tw_istore (lv' := [(5, .int 0), (0, .ref a0), (1, .int x1), (2, .int x2), (3, .int x3), (4, .int x4)]) hO dX8_goThrough_58 (by decide) rfl ?_
  refine tw_sub [1, 2, 3, 4, 5, 0] rfl ?_
  exact wX8_goThrough_l60 hO hk3 _ _ _ _ _ _ _ _ _ h
set_option maxRecDepth 100000 in
set_option maxHeartbeats 4000000 in
theorem wX8_goThrough_b33 (hO : tw_O p s m args meth c cX8_goThrough RX8 8 (some .int) G) {k3 : (tw_St → Nat → Int32 → Int32 → Int32 → Int32 → Option (Int32 × tw_St))} (hk3 : ∀ (σ : tw_St) (a0 : Nat) (x1 : Int32) (x2 : Int32) (x3 : Int32) (x4 : Int32) (q : Int32 × tw_St), k3 σ a0 x1 x2 x3 x4 = some q → tw_X p l e rmX8_goThrough s m args below meth c 8 G σ 0 0 (tw_Q below args s G 0 0 (some (.int q.1)) q.2) 3 [(0, .ref a0), (1, .int x1), (2, .int x2), (3, .int x3), (4, .int x4)] []) {σ : tw_St} {a0 : Nat} {x1 : Int32} {x2 : Int32} {x3 : Int32} {x4 : Int32} {z0 : Int32} {z1 : Nat} {q : Int32 × tw_St} (h : fX8_goThrough_b33 k3 σ a0 x1 x2 x3 x4 z0 z1 = some q) : tw_X p l e rmX8_goThrough s m args below meth c 8 G σ 0 0 (tw_Q below args s G 0 0 (some (.int q.1)) q.2) 33 [(0, .ref a0), (1, .int x1), (2, .int x2), (3, .int x3), (4, .int x4)] [.int z0, .ref z1] := by
  unfold fX8_goThrough_b33 at h
  refine tw_iconst (v := 0) hO dX8_goThrough_33 (by decide) ?_
  refine tw_goto (tgt := 39) hO dX8_goThrough_34 (by decide) ?_
  exact wX8_goThrough_b39 hO hk3 h
set_option maxRecDepth 100000 in
set_option maxHeartbeats 4000000 in
theorem wX8_goThrough_h3 (hO : tw_O p s m args meth c cX8_goThrough RX8 8 (some .int) G) {k3 : (tw_St → Nat → Int32 → Int32 → Int32 → Int32 → Option (Int32 × tw_St))} (hk3 : ∀ (σ : tw_St) (a0 : Nat) (x1 : Int32) (x2 : Int32) (x3 : Int32) (x4 : Int32) (q : Int32 × tw_St), k3 σ a0 x1 x2 x3 x4 = some q → tw_X p l e rmX8_goThrough s m args below meth c 8 G σ 0 0 (tw_Q below args s G 0 0 (some (.int q.1)) q.2) 3 [(0, .ref a0), (1, .int x1), (2, .int x2), (3, .int x3), (4, .int x4)] []) {σ : tw_St} {a0 : Nat} {x1 : Int32} {x2 : Int32} {x3 : Int32} {x4 : Int32} {q : Int32 × tw_St} (h : fX8_goThrough_h3 k3 σ a0 x1 x2 x3 x4 = some q) : tw_X p l e rmX8_goThrough s m args below meth c 8 G σ 0 0 (tw_Q below args s G 0 0 (some (.int q.1)) q.2) 3 [(0, .ref a0), (1, .int x1), (2, .int x2), (3, .int x3), (4, .int x4)] [] := by
  unfold fX8_goThrough_h3 at h
  refine tw_iload 4 hO dX8_goThrough_3 rfl ?_
  refine tw_iconst (v := 2) hO dX8_goThrough_5 (by decide) ?_
  refine tw_icmp_ge (tgt := 180) hO dX8_goThrough_6 (by decide) (fun cc => ?_) (fun cc => ?_)
  · replace h := tw_ifp cc h
    refine tw_sub [0, 1, 2] rfl ?_
    exact wX8_goThrough_b180 hO h
  · replace h := tw_ifn cc h
    refine tw_aload_n 0 hO dX8_goThrough_9 rfl rfl ?_
    obtain ⟨v10, e10, h⟩ := tw_bd h
    refine tw_getP hO dX8_goThrough_10 (t := 8) rfl 17 (by decide) rfl tw_w612 rfl e10 ?_
    refine tw_iload 4 hO dX8_goThrough_13 rfl ?_
    refine tw_iconst (v := 0) hO dX8_goThrough_15 (by decide) ?_
    obtain ⟨σ16, e16, h⟩ := tw_bd h
    refine tw_iast hO dX8_goThrough_16 e16 ?_
    refine tw_aload_n 0 hO dX8_goThrough_17 rfl rfl ?_
    obtain ⟨v18, e18, h⟩ := tw_bd h
    refine tw_getP hO dX8_goThrough_18 (t := 8) rfl 18 (by decide) rfl tw_w613 rfl e18 ?_
    refine tw_iload 4 hO dX8_goThrough_21 rfl ?_
    refine tw_iload_n 3 hO dX8_goThrough_23 rfl rfl ?_
    refine tw_if_lt (tgt := 33) hO dX8_goThrough_24 (by decide) (fun cc => ?_) (fun cc => ?_)
    · replace h := tw_ifp cc h
      exact wX8_goThrough_b33 hO hk3 h
    · replace h := tw_ifn cc h
      refine tw_iload_n 3 hO dX8_goThrough_27 rfl rfl ?_
      refine tw_iload 4 hO dX8_goThrough_28 rfl ?_
      refine tw_icmp_ne (tgt := 37) hO dX8_goThrough_30 (by decide) (fun cc => ?_) (fun cc => ?_)
      · replace h := tw_ifn cc h
        refine tw_bipush (v := (-6)) hO dX8_goThrough_37 (by decide) ?_
        exact wX8_goThrough_b39 hO hk3 h
      · replace h := tw_ifp cc h
        exact wX8_goThrough_b33 hO hk3 h
set_option maxRecDepth 100000 in
set_option maxHeartbeats 4000000 in
theorem wX8_goThrough_l3 (hO : tw_O p s m args meth c cX8_goThrough RX8 8 (some .int) G) : ∀ (n : Nat) (σ : tw_St) (a0 : Nat) (x1 : Int32) (x2 : Int32) (x3 : Int32) (x4 : Int32) (q : Int32 × tw_St), fX8_goThrough_l3 n σ a0 x1 x2 x3 x4 = some q → tw_X p l e rmX8_goThrough s m args below meth c 8 G σ 0 0 (tw_Q below args s G 0 0 (some (.int q.1)) q.2) 3 [(0, .ref a0), (1, .int x1), (2, .int x2), (3, .int x3), (4, .int x4)] [] := by
  intro n
  induction n with
  | zero => intro _ _ _ _ _ _ q h; cases (show (none : Option (Int32 × tw_St)) = some q from h)
  | succ n ih => intro _ _ _ _ _ _ q h; exact wX8_goThrough_h3 hO ih h
set_option maxRecDepth 100000 in
set_option maxHeartbeats 4000000 in
theorem mX8_goThrough (l : Launch) (G : tw_G) {σ : tw_St} {a : Nat} {x1 : Int32} {x2 : Int32} {x3 : Int32} {q : Int32 × tw_St} (h : fX8_goThrough σ a x1 x2 x3 = some q) : tw_M l G yX8_goThrough cX8_goThrough 8 (some .int) rmX8_goThrough 0 0 σ [.ref a, .int x1, .int x2, .int x3] (some (.int q.1)) q.2 := by
  unfold fX8_goThrough at h
  obtain ⟨_, -, h⟩ := tw_bd h
  refine tw_M.of (by decide +kernel) (Nat.le_of_ble_eq_true rfl) (fun p e s m args below meth c hnm hO => ?_)
  have hO : tw_O p s m args meth c cX8_goThrough RX8 8 (some .int) G := hO
  refine tw_iconst (v := 0) hO dX8_goThrough_0 (by decide) ?_
  refine tw_istore (lv' := [(4, .int 0), (0, .ref a), (1, .int x1), (2, .int x2), (3, .int x3)]) hO dX8_goThrough_1 (by decide) rfl ?_
  refine tw_sub [1, 2, 3, 4, 0] rfl ?_
  exact wX8_goThrough_l3 hO _ _ _ _ _ _ _ _ h
theorem cfX8_run : tw_CF yX8_run cX8_run 1 (some .int) 0 := ⟨tw_w750, tw_w56, by decide +kernel, by decide +kernel, by decide +kernel⟩
theorem kX8_run {σ : tw_St} {a : Nat} {q : Int32 × tw_St} (h : fX8_run σ a = some q) : tw_is σ 8 a = some () := by
  unfold fX8_run at h
  obtain ⟨_, e1, -⟩ := tw_bd h
  exact e1
set_option maxRecDepth 100000 in
set_option maxHeartbeats 4000000 in
theorem mX8_run (l : Launch) (G : tw_G) {σ : tw_St} {a : Nat} {q : Int32 × tw_St} (h : fX8_run σ a = some q) : tw_M l G yX8_run cX8_run 1 (some .int) rmX8_run 0 0 σ [.ref a] (some (.int q.1)) q.2 := by
  unfold fX8_run at h
  obtain ⟨_, -, h⟩ := tw_bd h
  refine tw_M.of (by decide +kernel) (Nat.le_of_ble_eq_true rfl) (fun p e s m args below meth c hnm hO => ?_)
  have hO : tw_O p s m args meth c cX8_run RX8 1 (some .int) G := hO
  refine tw_aload_n 0 hO dX8_run_0 rfl rfl ?_
  refine tw_aload_n 0 hO dX8_run_1 rfl rfl ?_
  obtain ⟨v2, e2, h⟩ := tw_bd h
  refine tw_getP hO dX8_run_2 (t := 8) rfl 0 (by decide) rfl tw_w595 rfl e2 ?_
  refine tw_iconst (v := 0) hO dX8_run_5 (by decide) ?_
  obtain ⟨v6, e6, h⟩ := tw_bd h
  refine tw_iald hO dX8_run_6 e6 ?_
  refine tw_bipush (v := (-6)) hO dX8_run_7 (by decide) ?_
  refine tw_bipush (v := (-6)) hO dX8_run_9 (by decide) ?_
  obtain ⟨q11, e11, h⟩ := tw_bd h
  refine tw_cVi hO (mX8_goThrough l G e11) cfX8_goThrough (t := 8) rfl (kX8_goThrough e11) tw_w751 tw_w753 tw_w32 rfl rfl rfl rfl ⟨(Nat.le_of_ble_eq_true rfl), (Nat.le_of_ble_eq_true rfl)⟩ (Nat.le_of_ble_eq_true rfl) ⟨(Nat.le_of_ble_eq_true rfl), (Nat.le_of_ble_eq_true rfl)⟩ dX8_run_11 ?_
  exact tw_iret hO dX8_run_14 h
theorem cfX8_exchange : tw_CF yX8_exchange cX8_exchange 3 (some .int) 0 := ⟨tw_w746, tw_w56, by decide +kernel, by decide +kernel, by decide +kernel⟩
theorem kX8_exchange {σ : tw_St} {a : Nat} {q : Int32 × tw_St} (h : fX8_exchange σ a = some q) : tw_is σ 8 a = some () := by
  unfold fX8_exchange at h
  obtain ⟨_, e1, -⟩ := tw_bd h
  exact e1
set_option maxRecDepth 100000 in
set_option maxHeartbeats 4000000 in
theorem wX8_exchange_b51 (hO : tw_O p s m args meth c cX8_exchange RX8 3 (some .int) G) {σ : tw_St} {a0 : Nat} {q : Int32 × tw_St} (h : fX8_exchange_b51 σ a0 = some q) : tw_X p l e rmX8_exchange s m args below meth c 3 G σ 0 0 (tw_Q below args s G 0 0 (some (.int q.1)) q.2) 51 [(0, .ref a0)] [] := by
  unfold fX8_exchange_b51 at h
  refine tw_aload_n 0 hO dX8_exchange_51 rfl rfl ?_
  obtain ⟨q52, e52, h⟩ := tw_bd h
  refine tw_cVi hO (mX8_run l G e52) cfX8_run (t := 8) rfl (kX8_run e52) tw_w747 tw_w749 tw_w31 rfl rfl rfl rfl ⟨(Nat.le_of_ble_eq_true rfl), (Nat.le_of_ble_eq_true rfl)⟩ (Nat.le_of_ble_eq_true rfl) ⟨(Nat.le_of_ble_eq_true rfl), (Nat.le_of_ble_eq_true rfl)⟩ dX8_exchange_52 ?_
  exact tw_iret hO dX8_exchange_55 h
set_option maxRecDepth 100000 in
set_option maxHeartbeats 4000000 in
theorem wX8_exchange_h7 (hO : tw_O p s m args meth c cX8_exchange RX8 3 (some .int) G) {k7 : (tw_St → Nat → Int32 → Option (Int32 × tw_St))} (hk7 : ∀ (σ : tw_St) (a0 : Nat) (x1 : Int32) (q : Int32 × tw_St), k7 σ a0 x1 = some q → tw_X p l e rmX8_exchange s m args below meth c 3 G σ 0 0 (tw_Q below args s G 0 0 (some (.int q.1)) q.2) 7 [(0, .ref a0), (1, .int x1)] []) {σ : tw_St} {a0 : Nat} {x1 : Int32} {q : Int32 × tw_St} (h : fX8_exchange_h7 k7 σ a0 x1 = some q) : tw_X p l e rmX8_exchange s m args below meth c 3 G σ 0 0 (tw_Q below args s G 0 0 (some (.int q.1)) q.2) 7 [(0, .ref a0), (1, .int x1)] [] := by
  unfold fX8_exchange_h7 at h
  refine tw_iload_n 1 hO dX8_exchange_7 rfl rfl ?_
  refine tw_bipush (v := 110) hO dX8_exchange_8 (by decide) ?_
  refine tw_icmp_ge (tgt := 51) hO dX8_exchange_10 (by decide) (fun cc => ?_) (fun cc => ?_)
  · replace h := tw_ifp cc h
    refine tw_sub [0] rfl ?_
    exact wX8_exchange_b51 hO h
  · replace h := tw_ifn cc h
    refine tw_aload_n 0 hO dX8_exchange_13 rfl rfl ?_
    obtain ⟨v14, e14, h⟩ := tw_bd h
    refine tw_getP hO dX8_exchange_14 (t := 8) rfl 0 (by decide) rfl tw_w595 rfl e14 ?_
    refine tw_iload_n 1 hO dX8_exchange_17 rfl rfl ?_
    obtain ⟨v18, e18, h⟩ := tw_bd h
    refine tw_iald hO dX8_exchange_18 e18 ?_
    refine tw_istore_n (lv' := [(2, .int v18), (0, .ref a0), (1, .int x1)]) hO dX8_exchange_19 rfl (by decide) rfl ?_
    refine tw_aload_n 1 hO dX8_exchange_20 rfl rfl ?_
    obtain ⟨v21, e21, h⟩ := tw_bd h
    refine tw_getP hO dX8_exchange_21 (t := 8) rfl 0 (by decide) rfl tw_w595 rfl e21 ?_
    refine tw_iload_n 2 hO dX8_exchange_24 rfl rfl ?_
    refine tw_aload_n 1 hO dX8_exchange_25 rfl rfl ?_
    obtain ⟨v26, e26, h⟩ := tw_bd h
    refine tw_getP hO dX8_exchange_26 (t := 8) rfl 0 (by decide) rfl tw_w595 rfl e26 ?_
    refine tw_iload_n 2 hO dX8_exchange_29 rfl rfl ?_
    refine tw_bipush (v := 100) hO dX8_exchange_30 (by decide) ?_
    refine tw_iadd hO dX8_exchange_32 ?_
    obtain ⟨v33, e33, h⟩ := tw_bd h
    refine tw_iald hO dX8_exchange_33 e33 ?_
    obtain ⟨σ34, e34, h⟩ := tw_bd h
    refine tw_iast hO dX8_exchange_34 e34 ?_
    refine tw_aload_n 1 hO dX8_exchange_35 rfl rfl ?_
    obtain ⟨v36, e36, h⟩ := tw_bd h
    refine tw_getP hO dX8_exchange_36 (t := 8) rfl 0 (by decide) rfl tw_w595 rfl e36 ?_
    refine tw_iload_n 2 hO dX8_exchange_39 rfl rfl ?_
    refine tw_bipush (v := 100) hO dX8_exchange_40 (by decide) ?_
    refine tw_iadd hO dX8_exchange_42 ?_
    refine tw_iload_n 0 hO dX8_exchange_43 rfl rfl ?_
    obtain ⟨σ44, e44, h⟩ := tw_bd h
    refine tw_iast hO dX8_exchange_44 e44 ?_
    refine tw_iinc (q := 2) (v := (x1 + 1)) (lv' := [(1, .int (x1 + 1)), (2, .int v18), (0, .ref a0)]) hO dX8_exchange_45 rfl rfl (by decide) rfl ?_
    refine tw_goto (tgt := 7) hO dX8_exchange_48 (by decide) ?_
    refine tw_sub [2, 0] rfl ?_
    exact hk7 _ _ _ _ h
set_option maxRecDepth 100000 in
set_option maxHeartbeats 4000000 in
theorem wX8_exchange_l7 (hO : tw_O p s m args meth c cX8_exchange RX8 3 (some .int) G) : ∀ (n : Nat) (σ : tw_St) (a0 : Nat) (x1 : Int32) (q : Int32 × tw_St), fX8_exchange_l7 n σ a0 x1 = some q → tw_X p l e rmX8_exchange s m args below meth c 3 G σ 0 0 (tw_Q below args s G 0 0 (some (.int q.1)) q.2) 7 [(0, .ref a0), (1, .int x1)] [] := by
  intro n
  induction n with
  | zero => intro _ _ _ q h; cases (show (none : Option (Int32 × tw_St)) = some q from h)
  | succ n ih => intro _ _ _ q h; exact wX8_exchange_h7 hO ih h
set_option maxRecDepth 100000 in
set_option maxHeartbeats 4000000 in
theorem mX8_exchange (l : Launch) (G : tw_G) {σ : tw_St} {a : Nat} {q : Int32 × tw_St} (h : fX8_exchange σ a = some q) : tw_M l G yX8_exchange cX8_exchange 3 (some .int) rmX8_exchange 0 0 σ [.ref a] (some (.int q.1)) q.2 := by
  unfold fX8_exchange at h
  obtain ⟨_, -, h⟩ := tw_bd h
  refine tw_M.of (by decide +kernel) (Nat.le_of_ble_eq_true rfl) (fun p e s m args below meth c hnm hO => ?_)
  have hO : tw_O p s m args meth c cX8_exchange RX8 3 (some .int) G := hO
  refine tw_aload_n 0 hO dX8_exchange_0 rfl rfl ?_
  obtain ⟨σ1, e1, h⟩ := tw_bd h
  refine tw_cVv hO (mX8_record l G e1) cfX8_record (t := 8) rfl (kX8_record e1) tw_w675 tw_w677 tw_w21 rfl rfl rfl rfl ⟨(Nat.le_of_ble_eq_true rfl), (Nat.le_of_ble_eq_true rfl)⟩ (Nat.le_of_ble_eq_true rfl) ⟨(Nat.le_of_ble_eq_true rfl), (Nat.le_of_ble_eq_true rfl)⟩ dX8_exchange_1 ?_
  refine tw_bipush (v := 10) hO dX8_exchange_4 (by decide) ?_
  refine tw_istore_n (lv' := [(1, .int 10), (0, .ref a)]) hO dX8_exchange_6 rfl (by decide) rfl ?_
  refine tw_sub [1, 0] rfl ?_
  exact wX8_exchange_l7 hO _ _ _ _ _ h
theorem cfX8_ofOrder : tw_CF yX8_ofOrder cX8_ofOrder 4 (some .int) 3 := ⟨tw_w801, tw_w56, by decide +kernel, by decide +kernel, by decide +kernel⟩
theorem kX8_ofOrder {σ : tw_St} {a : Nat} {x1 : Int32} {x2 : Int32} {x3 : Int32} {q : Int32} (h : fX8_ofOrder σ a x1 x2 x3 = some q) : tw_is σ 8 a = some () := by
  unfold fX8_ofOrder at h
  obtain ⟨_, e1, -⟩ := tw_bd h
  exact e1
set_option maxRecDepth 100000 in
set_option maxHeartbeats 4000000 in
theorem mX8_ofOrder (l : Launch) (G : tw_G) {σ : tw_St} {a : Nat} {x1 : Int32} {x2 : Int32} {x3 : Int32} {q : Int32} (h : fX8_ofOrder σ a x1 x2 x3 = some q) : tw_M l G yX8_ofOrder cX8_ofOrder 4 (some .int) rmX8_ofOrder 0 0 σ [.ref a, .int x1, .int x2, .int x3] (some (.int q)) σ := by
  unfold fX8_ofOrder at h
  obtain ⟨_, -, h⟩ := tw_bd h
  refine tw_M.of (by decide +kernel) (Nat.le_of_ble_eq_true rfl) (fun p e s m args below meth c hnm hO => ?_)
  have hO : tw_O p s m args meth c cX8_ofOrder RX8 4 (some .int) G := hO
  refine tw_iload_n 1 hO dX8_ofOrder_0 rfl rfl ?_
  obtain ⟨v1, e1, h⟩ := tw_bd h
  refine tw_cSi hO (mX8_isThread l G e1) cfX8_isThread tw_w683 tw_w684 rfl rfl rfl rfl ⟨(Nat.le_of_ble_eq_true rfl), (Nat.le_of_ble_eq_true rfl)⟩ (Nat.le_of_ble_eq_true rfl) ⟨(Nat.le_of_ble_eq_true rfl), (Nat.le_of_ble_eq_true rfl)⟩ dX8_ofOrder_1 ?_
  refine tw_if_eq (tgt := 22) hO dX8_ofOrder_4 (by decide) (fun cc => ?_) (fun cc => ?_)
  · replace h := tw_ifp cc h
    refine tw_iconst (v := (-1)) hO dX8_ofOrder_22 (by decide) ?_
    exact tw_iretR hO dX8_ofOrder_23 h
  · replace h := tw_ifn cc h
    refine tw_iload_n 2 hO dX8_ofOrder_7 rfl rfl ?_
    refine tw_iconst (v := 0) hO dX8_ofOrder_8 (by decide) ?_
    refine tw_aload_n 0 hO dX8_ofOrder_9 rfl rfl ?_
    refine tw_iload_n 1 hO dX8_ofOrder_10 rfl rfl ?_
    obtain ⟨v11, e11, h⟩ := tw_bd h
    refine tw_cVi hO (mX8_many l G e11) cfX8_many (t := 8) rfl (kX8_many e11) tw_w739 tw_w741 tw_w30 rfl rfl rfl rfl ⟨(Nat.le_of_ble_eq_true rfl), (Nat.le_of_ble_eq_true rfl)⟩ (Nat.le_of_ble_eq_true rfl) ⟨(Nat.le_of_ble_eq_true rfl), (Nat.le_of_ble_eq_true rfl)⟩ dX8_ofOrder_11 ?_
    refine tw_iconst (v := 1) hO dX8_ofOrder_14 (by decide) ?_
    refine tw_isub hO dX8_ofOrder_15 ?_
    obtain ⟨v16, e16, h⟩ := tw_bd h
    refine tw_cSi hO (mX8_in l G e16) cfX8_in tw_w672 tw_w673 rfl rfl rfl rfl ⟨(Nat.le_of_ble_eq_true rfl), (Nat.le_of_ble_eq_true rfl)⟩ (Nat.le_of_ble_eq_true rfl) ⟨(Nat.le_of_ble_eq_true rfl), (Nat.le_of_ble_eq_true rfl)⟩ dX8_ofOrder_16 ?_
    refine tw_if_ne (tgt := 24) hO dX8_ofOrder_19 (by decide) (fun cc => ?_) (fun cc => ?_)
    · replace h := tw_ifn cc h
      refine tw_iload_n 3 hO dX8_ofOrder_24 rfl rfl ?_
      refine tw_iconst (v := 0) hO dX8_ofOrder_25 (by decide) ?_
      refine tw_iconst (v := 4) hO dX8_ofOrder_26 (by decide) ?_
      obtain ⟨v27, e27, h⟩ := tw_bd h
      refine tw_cSi hO (mX8_in l G e27) cfX8_in tw_w672 tw_w673 rfl rfl rfl rfl ⟨(Nat.le_of_ble_eq_true rfl), (Nat.le_of_ble_eq_true rfl)⟩ (Nat.le_of_ble_eq_true rfl) ⟨(Nat.le_of_ble_eq_true rfl), (Nat.le_of_ble_eq_true rfl)⟩ dX8_ofOrder_27 ?_
      refine tw_if_eq (tgt := 43) hO dX8_ofOrder_30 (by decide) (fun cc => ?_) (fun cc => ?_)
      · replace h := tw_ifp cc h
        refine tw_bipush (v := (-2)) hO dX8_ofOrder_43 (by decide) ?_
        exact tw_iretR hO dX8_ofOrder_45 h
      · replace h := tw_ifn cc h
        refine tw_aload_n 0 hO dX8_ofOrder_33 rfl rfl ?_
        refine tw_iload_n 1 hO dX8_ofOrder_34 rfl rfl ?_
        refine tw_iload_n 2 hO dX8_ofOrder_35 rfl rfl ?_
        refine tw_iload_n 3 hO dX8_ofOrder_36 rfl rfl ?_
        obtain ⟨v37, e37, h⟩ := tw_bd h
        refine tw_cVi hO (mX8_of l G e37) cfX8_of (t := 8) rfl (kX8_of e37) tw_w767 tw_w769 tw_w36 rfl rfl rfl rfl ⟨(Nat.le_of_ble_eq_true rfl), (Nat.le_of_ble_eq_true rfl)⟩ (Nat.le_of_ble_eq_true rfl) ⟨(Nat.le_of_ble_eq_true rfl), (Nat.le_of_ble_eq_true rfl)⟩ dX8_ofOrder_37 ?_
        refine tw_goto (tgt := 45) hO dX8_ofOrder_40 (by decide) ?_
        exact tw_iretR hO dX8_ofOrder_45 h
    · replace h := tw_ifp cc h
      refine tw_iconst (v := (-1)) hO dX8_ofOrder_22 (by decide) ?_
      exact tw_iretR hO dX8_ofOrder_23 h
theorem cfX8_stepsOf : tw_CF yX8_stepsOf cX8_stepsOf 5 (some .int) 2 := ⟨tw_w809, tw_w56, by decide +kernel, by decide +kernel, by decide +kernel⟩
theorem kX8_stepsOf {σ : tw_St} {a : Nat} {x1 : Int32} {x2 : Int32} {q : Int32} (h : fX8_stepsOf σ a x1 x2 = some q) : tw_is σ 8 a = some () := by
  unfold fX8_stepsOf at h
  obtain ⟨_, e1, -⟩ := tw_bd h
  exact e1
set_option maxRecDepth 100000 in
set_option maxHeartbeats 4000000 in
theorem wX8_stepsOf_b47 (hO : tw_O p s m args meth c cX8_stepsOf RX8 5 (some .int) G) {k5 : (tw_St → Nat → Int32 → Int32 → Int32 → Int32 → Option (Int32))} (hk5 : ∀ (σ : tw_St) (a0 : Nat) (x1 : Int32) (x2 : Int32) (x3 : Int32) (x4 : Int32) (q : Int32), k5 σ a0 x1 x2 x3 x4 = some q → tw_X p l e rmX8_stepsOf s m args below meth c 5 G σ 0 0 (tw_Q below args s G 0 0 (some (.int q)) σ) 5 [(0, .ref a0), (1, .int x1), (2, .int x2), (3, .int x3), (4, .int x4)] []) {σ : tw_St} {a0 : Nat} {x1 : Int32} {x2 : Int32} {x4 : Int32} {z0 : Int32} {z1 : Int32} {q : Int32} (h : fX8_stepsOf_b47 k5 σ a0 x1 x2 x4 z0 z1 = some q) : tw_X p l e rmX8_stepsOf s m args below meth c 5 G σ 0 0 (tw_Q below args s G 0 0 (some (.int q)) σ) 47 [(0, .ref a0), (1, .int x1), (2, .int x2), (4, .int x4)] [.int z0, .int z1] := by
  unfold fX8_stepsOf_b47 at h
  refine tw_iadd hO dX8_stepsOf_47 ?_
  refine tw_istore_n (lv' := [(3, .int (z1 + z0)), (0, .ref a0), (1, .int x1), (2, .int x2), (4, .int x4)]) hO dX8_stepsOf_48 rfl (by decide) rfl ?_
  refine tw_iinc (q := 4) (v := (x4 + 1)) (lv' := [(4, .int (x4 + 1)), (3, .int (z1 + z0)), (0, .ref a0), (1, .int x1), (2, .int x2)]) hO dX8_stepsOf_49 rfl rfl (by decide) rfl ?_
  refine tw_goto (tgt := 5) hO dX8_stepsOf_52 (by decide) ?_
  refine tw_sub [2, 3, 4, 1, 0] rfl ?_
  exact hk5 _ _ _ _ _ _ _ h
set_option maxRecDepth 100000 in
set_option maxHeartbeats 4000000 in
theorem wX8_stepsOf_h5 (hO : tw_O p s m args meth c cX8_stepsOf RX8 5 (some .int) G) {k5 : (tw_St → Nat → Int32 → Int32 → Int32 → Int32 → Option (Int32))} (hk5 : ∀ (σ : tw_St) (a0 : Nat) (x1 : Int32) (x2 : Int32) (x3 : Int32) (x4 : Int32) (q : Int32), k5 σ a0 x1 x2 x3 x4 = some q → tw_X p l e rmX8_stepsOf s m args below meth c 5 G σ 0 0 (tw_Q below args s G 0 0 (some (.int q)) σ) 5 [(0, .ref a0), (1, .int x1), (2, .int x2), (3, .int x3), (4, .int x4)] []) {σ : tw_St} {a0 : Nat} {x1 : Int32} {x2 : Int32} {x3 : Int32} {x4 : Int32} {q : Int32} (h : fX8_stepsOf_h5 k5 σ a0 x1 x2 x3 x4 = some q) : tw_X p l e rmX8_stepsOf s m args below meth c 5 G σ 0 0 (tw_Q below args s G 0 0 (some (.int q)) σ) 5 [(0, .ref a0), (1, .int x1), (2, .int x2), (3, .int x3), (4, .int x4)] [] := by
  unfold fX8_stepsOf_h5 at h
  refine tw_iload 4 hO dX8_stepsOf_5 rfl ?_
  refine tw_aload_n 0 hO dX8_stepsOf_7 rfl rfl ?_
  obtain ⟨v8, e8, h⟩ := tw_bd h
  refine tw_getP hO dX8_stepsOf_8 (t := 8) rfl 17 (by decide) rfl tw_w612 rfl e8 ?_
  refine tw_iload_n 1 hO dX8_stepsOf_11 rfl rfl ?_
  obtain ⟨v12, e12, h⟩ := tw_bd h
  refine tw_iald hO dX8_stepsOf_12 e12 ?_
  refine tw_icmp_ge (tgt := 55) hO dX8_stepsOf_13 (by decide) (fun cc => ?_) (fun cc => ?_)
  · replace h := tw_ifp cc h
    refine tw_iload_n 3 hO dX8_stepsOf_55 rfl rfl ?_
    exact tw_iretR hO dX8_stepsOf_56 h
  · replace h := tw_ifn cc h
    refine tw_iload_n 3 hO dX8_stepsOf_16 rfl rfl ?_
    refine tw_aload_n 0 hO dX8_stepsOf_17 rfl rfl ?_
    refine tw_iload_n 1 hO dX8_stepsOf_18 rfl rfl ?_
    refine tw_aload_n 0 hO dX8_stepsOf_19 rfl rfl ?_
    obtain ⟨v20, e20, h⟩ := tw_bd h
    refine tw_getP hO dX8_stepsOf_20 (t := 8) rfl 14 (by decide) rfl tw_w609 rfl e20 ?_
    refine tw_bipush (v := 100) hO dX8_stepsOf_23 (by decide) ?_
    refine tw_iload_n 1 hO dX8_stepsOf_25 rfl rfl ?_
    refine tw_imul hO dX8_stepsOf_26 ?_
    refine tw_iload 4 hO dX8_stepsOf_27 rfl ?_
    refine tw_iadd hO dX8_stepsOf_29 ?_
    obtain ⟨v30, e30, h⟩ := tw_bd h
    refine tw_iald hO dX8_stepsOf_30 e30 ?_
    refine tw_iconst (v := 0) hO dX8_stepsOf_31 (by decide) ?_
    obtain ⟨v32, e32, h⟩ := tw_bd h
    refine tw_cVi hO (mX8_of l G e32) cfX8_of (t := 8) rfl (kX8_of e32) tw_w767 tw_w769 tw_w36 rfl rfl rfl rfl ⟨(Nat.le_of_ble_eq_true rfl), (Nat.le_of_ble_eq_true rfl)⟩ (Nat.le_of_ble_eq_true rfl) ⟨(Nat.le_of_ble_eq_true rfl), (Nat.le_of_ble_eq_true rfl)⟩ dX8_stepsOf_32 ?_
    obtain ⟨v35, e35, h⟩ := tw_bd h
    refine tw_cSi hO (mX8_roomOf l G e35) cfX8_roomOf tw_w771 tw_w772 rfl rfl rfl rfl ⟨(Nat.le_of_ble_eq_true rfl), (Nat.le_of_ble_eq_true rfl)⟩ (Nat.le_of_ble_eq_true rfl) ⟨(Nat.le_of_ble_eq_true rfl), (Nat.le_of_ble_eq_true rfl)⟩ dX8_stepsOf_35 ?_
    refine tw_iload_n 2 hO dX8_stepsOf_38 rfl rfl ?_
    refine tw_icmp_ne (tgt := 46) hO dX8_stepsOf_39 (by decide) (fun cc => ?_) (fun cc => ?_)
    · replace h := tw_ifn cc h
      refine tw_iconst (v := 0) hO dX8_stepsOf_46 (by decide) ?_
      refine tw_sub [0, 1, 2, 4] rfl ?_
      exact wX8_stepsOf_b47 hO hk5 h
    · replace h := tw_ifp cc h
      refine tw_iconst (v := 1) hO dX8_stepsOf_42 (by decide) ?_
      refine tw_goto (tgt := 47) hO dX8_stepsOf_43 (by decide) ?_
      refine tw_sub [0, 1, 2, 4] rfl ?_
      exact wX8_stepsOf_b47 hO hk5 h
set_option maxRecDepth 100000 in
set_option maxHeartbeats 4000000 in
theorem wX8_stepsOf_l5 (hO : tw_O p s m args meth c cX8_stepsOf RX8 5 (some .int) G) : ∀ (n : Nat) (σ : tw_St) (a0 : Nat) (x1 : Int32) (x2 : Int32) (x3 : Int32) (x4 : Int32) (q : Int32), fX8_stepsOf_l5 n σ a0 x1 x2 x3 x4 = some q → tw_X p l e rmX8_stepsOf s m args below meth c 5 G σ 0 0 (tw_Q below args s G 0 0 (some (.int q)) σ) 5 [(0, .ref a0), (1, .int x1), (2, .int x2), (3, .int x3), (4, .int x4)] [] := by
  intro n
  induction n with
  | zero => intro _ _ _ _ _ _ q h; cases (show (none : Option (Int32)) = some q from h)
  | succ n ih => intro _ _ _ _ _ _ q h; exact wX8_stepsOf_h5 hO ih h
set_option maxRecDepth 100000 in
set_option maxHeartbeats 4000000 in
theorem mX8_stepsOf (l : Launch) (G : tw_G) {σ : tw_St} {a : Nat} {x1 : Int32} {x2 : Int32} {q : Int32} (h : fX8_stepsOf σ a x1 x2 = some q) : tw_M l G yX8_stepsOf cX8_stepsOf 5 (some .int) rmX8_stepsOf 0 0 σ [.ref a, .int x1, .int x2] (some (.int q)) σ := by
  unfold fX8_stepsOf at h
  obtain ⟨_, -, h⟩ := tw_bd h
  refine tw_M.of (by decide +kernel) (Nat.le_of_ble_eq_true rfl) (fun p e s m args below meth c hnm hO => ?_)
  have hO : tw_O p s m args meth c cX8_stepsOf RX8 5 (some .int) G := hO
  refine tw_iconst (v := 0) hO dX8_stepsOf_0 (by decide) ?_
  refine tw_istore_n (lv' := [(3, .int 0), (0, .ref a), (1, .int x1), (2, .int x2)]) hO dX8_stepsOf_1 rfl (by decide) rfl ?_
  refine tw_iconst (v := 0) hO dX8_stepsOf_2 (by decide) ?_
  refine tw_istore (lv' := [(4, .int 0), (3, .int 0), (0, .ref a), (1, .int x1), (2, .int x2)]) hO dX8_stepsOf_3 (by decide) rfl ?_
  refine tw_sub [2, 3, 4, 1, 0] rfl ?_
  exact wX8_stepsOf_l5 hO _ _ _ _ _ _ _ _ h
theorem cfX8_ofThread : tw_CF yX8_ofThread cX8_ofThread 3 (some .int) 2 := ⟨tw_w805, tw_w56, by decide +kernel, by decide +kernel, by decide +kernel⟩
theorem kX8_ofThread {σ : tw_St} {a : Nat} {x1 : Int32} {x2 : Int32} {q : Int32 × tw_St} (h : fX8_ofThread σ a x1 x2 = some q) : tw_is σ 8 a = some () := by
  unfold fX8_ofThread at h
  obtain ⟨_, e1, -⟩ := tw_bd h
  exact e1
set_option maxRecDepth 100000 in
set_option maxHeartbeats 4000000 in
theorem wX8_ofThread_b158 (hO : tw_O p s m args meth c cX8_ofThread RX8 3 (some .int) G) {σ : tw_St} {a0 : Nat} {x1 : Int32} {x2 : Int32} {q : Int32 × tw_St} (h : fX8_ofThread_b158 σ a0 x1 x2 = some q) : tw_X p l e rmX8_ofThread s m args below meth c 3 G σ 0 0 (tw_Q below args s G 0 0 (some (.int q.1)) q.2) 158 [(0, .ref a0), (1, .int x1), (2, .int x2)] [] := by
  unfold fX8_ofThread_b158 at h
  refine tw_iload_n 2 hO dX8_ofThread_158 rfl rfl ?_
  refine tw_iconst (v := 4) hO dX8_ofThread_159 (by decide) ?_
  refine tw_bipush (v := 7) hO dX8_ofThread_160 (by decide) ?_
  obtain ⟨v162, e162, h⟩ := tw_bd h
  refine tw_cSi hO (mX8_in l G e162) cfX8_in tw_w672 tw_w673 rfl rfl rfl rfl ⟨(Nat.le_of_ble_eq_true rfl), (Nat.le_of_ble_eq_true rfl)⟩ (Nat.le_of_ble_eq_true rfl) ⟨(Nat.le_of_ble_eq_true rfl), (Nat.le_of_ble_eq_true rfl)⟩ dX8_ofThread_162 ?_
  refine tw_if_eq (tgt := 183) hO dX8_ofThread_165 (by decide) (fun cc => ?_) (fun cc => ?_)
  · replace h := tw_ifp cc h
    refine tw_bipush (v := (-2)) hO dX8_ofThread_183 (by decide) ?_
    exact tw_iret hO dX8_ofThread_185 h
  · replace h := tw_ifn cc h
    refine tw_aload_n 0 hO dX8_ofThread_168 rfl rfl ?_
    obtain ⟨v169, e169, h⟩ := tw_bd h
    refine tw_getP hO dX8_ofThread_169 (t := 8) rfl 19 (by decide) rfl tw_w614 rfl e169 ?_
    refine tw_iconst (v := 5) hO dX8_ofThread_172 (by decide) ?_
    refine tw_iload_n 1 hO dX8_ofThread_173 rfl rfl ?_
    refine tw_imul hO dX8_ofThread_174 ?_
    refine tw_iload_n 2 hO dX8_ofThread_175 rfl rfl ?_
    refine tw_iadd hO dX8_ofThread_176 ?_
    refine tw_iconst (v := 3) hO dX8_ofThread_177 (by decide) ?_
    refine tw_isub hO dX8_ofThread_178 ?_
    obtain ⟨v179, e179, h⟩ := tw_bd h
    refine tw_iald hO dX8_ofThread_179 e179 ?_
    refine tw_goto (tgt := 185) hO dX8_ofThread_180 (by decide) ?_
    exact tw_iret hO dX8_ofThread_185 h
set_option maxRecDepth 100000 in
set_option maxHeartbeats 4000000 in
theorem mX8_ofThread (l : Launch) (G : tw_G) {σ : tw_St} {a : Nat} {x1 : Int32} {x2 : Int32} {q : Int32 × tw_St} (h : fX8_ofThread σ a x1 x2 = some q) : tw_M l G yX8_ofThread cX8_ofThread 3 (some .int) rmX8_ofThread 0 0 σ [.ref a, .int x1, .int x2] (some (.int q.1)) q.2 := by
  unfold fX8_ofThread at h
  obtain ⟨_, -, h⟩ := tw_bd h
  refine tw_M.of (by decide +kernel) (Nat.le_of_ble_eq_true rfl) (fun p e s m args below meth c hnm hO => ?_)
  have hO : tw_O p s m args meth c cX8_ofThread RX8 3 (some .int) G := hO
  refine tw_iload_n 1 hO dX8_ofThread_0 rfl rfl ?_
  obtain ⟨v1, e1, h⟩ := tw_bd h
  refine tw_cSi hO (mX8_isThread l G e1) cfX8_isThread tw_w683 tw_w684 rfl rfl rfl rfl ⟨(Nat.le_of_ble_eq_true rfl), (Nat.le_of_ble_eq_true rfl)⟩ (Nat.le_of_ble_eq_true rfl) ⟨(Nat.le_of_ble_eq_true rfl), (Nat.le_of_ble_eq_true rfl)⟩ dX8_ofThread_1 ?_
  refine tw_if_ne (tgt := 9) hO dX8_ofThread_4 (by decide) (fun cc => ?_) (fun cc => ?_)
  · replace h := tw_ifn cc h
    refine tw_aload_n 0 hO dX8_ofThread_9 rfl rfl ?_
    obtain ⟨q10, e10, h⟩ := tw_bd h
    refine tw_cVi hO (mX8_run l G e10) cfX8_run (t := 8) rfl (kX8_run e10) tw_w747 tw_w749 tw_w31 rfl rfl rfl rfl ⟨(Nat.le_of_ble_eq_true rfl), (Nat.le_of_ble_eq_true rfl)⟩ (Nat.le_of_ble_eq_true rfl) ⟨(Nat.le_of_ble_eq_true rfl), (Nat.le_of_ble_eq_true rfl)⟩ dX8_ofThread_10 ?_
    refine tw_pop hO dX8_ofThread_13 rfl ?_
    refine tw_iload_n 2 hO dX8_ofThread_14 rfl rfl ?_
    by_cases s0 : x2 = 0
    · replace h := tw_ifp s0 h
      refine tw_tableIn (off := 57) (tgt := 72) hO dX8_ofThread_15 (by rw [s0]; decide) (by rw [s0]; decide) (by rw [s0]; rfl) (by decide) ?_
      refine tw_aload_n 0 hO dX8_ofThread_72 rfl rfl ?_
      refine tw_iload_n 1 hO dX8_ofThread_73 rfl rfl ?_
      obtain ⟨v74, e74, h⟩ := tw_bd h
      refine tw_cVi hO (mX8_many l G e74) cfX8_many (t := 8) rfl (kX8_many e74) tw_w739 tw_w741 tw_w30 rfl rfl rfl rfl ⟨(Nat.le_of_ble_eq_true rfl), (Nat.le_of_ble_eq_true rfl)⟩ (Nat.le_of_ble_eq_true rfl) ⟨(Nat.le_of_ble_eq_true rfl), (Nat.le_of_ble_eq_true rfl)⟩ dX8_ofThread_74 ?_
      exact tw_iret hO dX8_ofThread_77 h
    replace h := tw_ifn s0 h
    by_cases s1 : x2 = 1
    · replace h := tw_ifp s1 h
      refine tw_tableIn (off := 63) (tgt := 78) hO dX8_ofThread_15 (by rw [s1]; decide) (by rw [s1]; decide) (by rw [s1]; rfl) (by decide) ?_
      refine tw_aload_n 0 hO dX8_ofThread_78 rfl rfl ?_
      obtain ⟨v79, e79, h⟩ := tw_bd h
      refine tw_getP hO dX8_ofThread_79 (t := 8) rfl 17 (by decide) rfl tw_w612 rfl e79 ?_
      refine tw_iload_n 1 hO dX8_ofThread_82 rfl rfl ?_
      obtain ⟨v83, e83, h⟩ := tw_bd h
      refine tw_iald hO dX8_ofThread_83 e83 ?_
      exact tw_iret hO dX8_ofThread_84 h
    replace h := tw_ifn s1 h
    by_cases s2 : x2 = 2
    · replace h := tw_ifp s2 h
      refine tw_tableIn (off := 70) (tgt := 85) hO dX8_ofThread_15 (by rw [s2]; decide) (by rw [s2]; decide) (by rw [s2]; rfl) (by decide) ?_
      refine tw_aload_n 0 hO dX8_ofThread_85 rfl rfl ?_
      refine tw_iload_n 1 hO dX8_ofThread_86 rfl rfl ?_
      obtain ⟨v87, e87, h⟩ := tw_bd h
      refine tw_cVi hO (mX8_lengthOf l G e87) cfX8_lengthOf (t := 8) rfl (kX8_lengthOf e87) tw_w794 tw_w796 tw_w42 rfl rfl rfl rfl ⟨(Nat.le_of_ble_eq_true rfl), (Nat.le_of_ble_eq_true rfl)⟩ (Nat.le_of_ble_eq_true rfl) ⟨(Nat.le_of_ble_eq_true rfl), (Nat.le_of_ble_eq_true rfl)⟩ dX8_ofThread_87 ?_
      exact tw_iret hO dX8_ofThread_90 h
    replace h := tw_ifn s2 h
    by_cases s3 : x2 = 3
    · replace h := tw_ifp s3 h
      refine tw_tableIn (off := 76) (tgt := 91) hO dX8_ofThread_15 (by rw [s3]; decide) (by rw [s3]; decide) (by rw [s3]; rfl) (by decide) ?_
      refine tw_aload_n 0 hO dX8_ofThread_91 rfl rfl ?_
      obtain ⟨v92, e92, h⟩ := tw_bd h
      refine tw_getP hO dX8_ofThread_92 (t := 8) rfl 17 (by decide) rfl tw_w612 rfl e92 ?_
      refine tw_iload_n 1 hO dX8_ofThread_95 rfl rfl ?_
      obtain ⟨v96, e96, h⟩ := tw_bd h
      refine tw_iald hO dX8_ofThread_96 e96 ?_
      refine tw_bipush (v := 100) hO dX8_ofThread_97 (by decide) ?_
      refine tw_icmp_ne (tgt := 126) hO dX8_ofThread_99 (by decide) (fun cc => ?_) (fun cc => ?_)
      · replace h := tw_ifn cc h
        refine tw_iconst (v := 0) hO dX8_ofThread_126 (by decide) ?_
        exact tw_iret hO dX8_ofThread_127 h
      · replace h := tw_ifp cc h
        refine tw_aload_n 0 hO dX8_ofThread_102 rfl rfl ?_
        obtain ⟨v103, e103, h⟩ := tw_bd h
        refine tw_getP hO dX8_ofThread_103 (t := 8) rfl 18 (by decide) rfl tw_w613 rfl e103 ?_
        refine tw_iload_n 1 hO dX8_ofThread_106 rfl rfl ?_
        obtain ⟨v107, e107, h⟩ := tw_bd h
        refine tw_iald hO dX8_ofThread_107 e107 ?_
        refine tw_iconst (v := 0) hO dX8_ofThread_108 (by decide) ?_
        refine tw_aload_n 0 hO dX8_ofThread_109 rfl rfl ?_
        refine tw_iload_n 1 hO dX8_ofThread_110 rfl rfl ?_
        obtain ⟨v111, e111, h⟩ := tw_bd h
        refine tw_cVi hO (mX8_many l G e111) cfX8_many (t := 8) rfl (kX8_many e111) tw_w739 tw_w741 tw_w30 rfl rfl rfl rfl ⟨(Nat.le_of_ble_eq_true rfl), (Nat.le_of_ble_eq_true rfl)⟩ (Nat.le_of_ble_eq_true rfl) ⟨(Nat.le_of_ble_eq_true rfl), (Nat.le_of_ble_eq_true rfl)⟩ dX8_ofThread_111 ?_
        refine tw_iconst (v := 1) hO dX8_ofThread_114 (by decide) ?_
        refine tw_isub hO dX8_ofThread_115 ?_
        obtain ⟨v116, e116, h⟩ := tw_bd h
        refine tw_cSi hO (mX8_in l G e116) cfX8_in tw_w672 tw_w673 rfl rfl rfl rfl ⟨(Nat.le_of_ble_eq_true rfl), (Nat.le_of_ble_eq_true rfl)⟩ (Nat.le_of_ble_eq_true rfl) ⟨(Nat.le_of_ble_eq_true rfl), (Nat.le_of_ble_eq_true rfl)⟩ dX8_ofThread_116 ?_
        refine tw_if_eq (tgt := 126) hO dX8_ofThread_119 (by decide) (fun cc => ?_) (fun cc => ?_)
        · replace h := tw_ifp cc h
          refine tw_iconst (v := 0) hO dX8_ofThread_126 (by decide) ?_
          exact tw_iret hO dX8_ofThread_127 h
        · replace h := tw_ifn cc h
          refine tw_iconst (v := 1) hO dX8_ofThread_122 (by decide) ?_
          refine tw_goto (tgt := 127) hO dX8_ofThread_123 (by decide) ?_
          exact tw_iret hO dX8_ofThread_127 h
    replace h := tw_ifn s3 h
    by_cases s8 : x2 = 8
    · replace h := tw_ifp s8 h
      refine tw_tableIn (off := 113) (tgt := 128) hO dX8_ofThread_15 (by rw [s8]; decide) (by rw [s8]; decide) (by rw [s8]; rfl) (by decide) ?_
      refine tw_aload_n 0 hO dX8_ofThread_128 rfl rfl ?_
      obtain ⟨v129, e129, h⟩ := tw_bd h
      refine tw_getP hO dX8_ofThread_129 (t := 8) rfl 17 (by decide) rfl tw_w612 rfl e129 ?_
      refine tw_iload_n 1 hO dX8_ofThread_132 rfl rfl ?_
      obtain ⟨v133, e133, h⟩ := tw_bd h
      refine tw_iald hO dX8_ofThread_133 e133 ?_
      refine tw_if_ne (tgt := 142) hO dX8_ofThread_134 (by decide) (fun cc => ?_) (fun cc => ?_)
      · replace h := tw_ifn cc h
        refine tw_aload_n 0 hO dX8_ofThread_142 rfl rfl ?_
        refine tw_iload_n 1 hO dX8_ofThread_143 rfl rfl ?_
        obtain ⟨v144, e144, h⟩ := tw_bd h
        refine tw_cVi hO (mX8_latest l G e144) cfX8_latest (t := 8) rfl (kX8_latest e144) tw_w778 tw_w780 tw_w38 rfl rfl rfl rfl ⟨(Nat.le_of_ble_eq_true rfl), (Nat.le_of_ble_eq_true rfl)⟩ (Nat.le_of_ble_eq_true rfl) ⟨(Nat.le_of_ble_eq_true rfl), (Nat.le_of_ble_eq_true rfl)⟩ dX8_ofThread_144 ?_
        exact tw_iret hO dX8_ofThread_147 h
      · replace h := tw_ifp cc h
        refine tw_bipush (v := (-6)) hO dX8_ofThread_137 (by decide) ?_
        refine tw_goto (tgt := 147) hO dX8_ofThread_139 (by decide) ?_
        exact tw_iret hO dX8_ofThread_147 h
    replace h := tw_ifn s8 h
    by_cases s9 : x2 = 9
    · replace h := tw_ifp s9 h
      refine tw_tableIn (off := 133) (tgt := 148) hO dX8_ofThread_15 (by rw [s9]; decide) (by rw [s9]; decide) (by rw [s9]; rfl) (by decide) ?_
      refine tw_aload_n 0 hO dX8_ofThread_148 rfl rfl ?_
      refine tw_iload_n 1 hO dX8_ofThread_149 rfl rfl ?_
      refine tw_iload_n 2 hO dX8_ofThread_150 rfl rfl ?_
      refine tw_bipush (v := 9) hO dX8_ofThread_151 (by decide) ?_
      refine tw_isub hO dX8_ofThread_153 ?_
      obtain ⟨v154, e154, h⟩ := tw_bd h
      refine tw_cVi hO (mX8_stepsOf l G e154) cfX8_stepsOf (t := 8) rfl (kX8_stepsOf e154) tw_w806 tw_w808 tw_w43 rfl rfl rfl rfl ⟨(Nat.le_of_ble_eq_true rfl), (Nat.le_of_ble_eq_true rfl)⟩ (Nat.le_of_ble_eq_true rfl) ⟨(Nat.le_of_ble_eq_true rfl), (Nat.le_of_ble_eq_true rfl)⟩ dX8_ofThread_154 ?_
      exact tw_iret hO dX8_ofThread_157 h
    replace h := tw_ifn s9 h
    by_cases s10 : x2 = 10
    · replace h := tw_ifp s10 h
      refine tw_tableIn (off := 133) (tgt := 148) hO dX8_ofThread_15 (by rw [s10]; decide) (by rw [s10]; decide) (by rw [s10]; rfl) (by decide) ?_
      refine tw_aload_n 0 hO dX8_ofThread_148 rfl rfl ?_
      refine tw_iload_n 1 hO dX8_ofThread_149 rfl rfl ?_
      refine tw_iload_n 2 hO dX8_ofThread_150 rfl rfl ?_
      refine tw_bipush (v := 9) hO dX8_ofThread_151 (by decide) ?_
      refine tw_isub hO dX8_ofThread_153 ?_
      obtain ⟨v154, e154, h⟩ := tw_bd h
      refine tw_cVi hO (mX8_stepsOf l G e154) cfX8_stepsOf (t := 8) rfl (kX8_stepsOf e154) tw_w806 tw_w808 tw_w43 rfl rfl rfl rfl ⟨(Nat.le_of_ble_eq_true rfl), (Nat.le_of_ble_eq_true rfl)⟩ (Nat.le_of_ble_eq_true rfl) ⟨(Nat.le_of_ble_eq_true rfl), (Nat.le_of_ble_eq_true rfl)⟩ dX8_ofThread_154 ?_
      exact tw_iret hO dX8_ofThread_157 h
    replace h := tw_ifn s10 h
    by_cases s4 : x2 = 4
    · refine tw_tableIn (off := 143) (tgt := 158) hO dX8_ofThread_15 (by rw [s4]; decide) (by rw [s4]; decide) (by rw [s4]; rfl) (by decide) ?_
      exact wX8_ofThread_b158 hO h
    by_cases s5 : x2 = 5
    · refine tw_tableIn (off := 143) (tgt := 158) hO dX8_ofThread_15 (by rw [s5]; decide) (by rw [s5]; decide) (by rw [s5]; rfl) (by decide) ?_
      exact wX8_ofThread_b158 hO h
    by_cases s6 : x2 = 6
    · refine tw_tableIn (off := 143) (tgt := 158) hO dX8_ofThread_15 (by rw [s6]; decide) (by rw [s6]; decide) (by rw [s6]; rfl) (by decide) ?_
      exact wX8_ofThread_b158 hO h
    by_cases s7 : x2 = 7
    · refine tw_tableIn (off := 143) (tgt := 158) hO dX8_ofThread_15 (by rw [s7]; decide) (by rw [s7]; decide) (by rw [s7]; rfl) (by decide) ?_
      exact wX8_ofThread_b158 hO h
    refine tw_tableOut (tgt := 158) hO dX8_ofThread_15 (by have n0 := lv_neT (a := 0) s0 rfl; have n1 := lv_neT (a := 1) s1 rfl; have n2 := lv_neT (a := 2) s2 rfl; have n3 := lv_neT (a := 3) s3 rfl; have n4 := lv_neT (a := 4) s4 rfl; have n5 := lv_neT (a := 5) s5 rfl; have n6 := lv_neT (a := 6) s6 rfl; have n7 := lv_neT (a := 7) s7 rfl; have n8 := lv_neT (a := 8) s8 rfl; have n9 := lv_neT (a := 9) s9 rfl; have n10 := lv_neT (a := 10) s10 rfl; omega) (by decide) ?_
    exact wX8_ofThread_b158 hO h
  · replace h := tw_ifp cc h
    refine tw_iconst (v := (-1)) hO dX8_ofThread_7 (by decide) ?_
    exact tw_iret hO dX8_ofThread_8 h
theorem cfX8_last : tw_CF yX8_last cX8_last 3 (some .int) 2 := ⟨tw_w813, tw_w56, by decide +kernel, by decide +kernel, by decide +kernel⟩
theorem kX8_last {σ : tw_St} {a : Nat} {x1 : Int32} {x2 : Int32} {q : Int32 × tw_St} (h : fX8_last σ a x1 x2 = some q) : tw_is σ 8 a = some () := by
  unfold fX8_last at h
  obtain ⟨_, e1, -⟩ := tw_bd h
  exact e1
set_option maxRecDepth 100000 in
set_option maxHeartbeats 4000000 in
theorem mX8_last (l : Launch) (G : tw_G) {σ : tw_St} {a : Nat} {x1 : Int32} {x2 : Int32} {q : Int32 × tw_St} (h : fX8_last σ a x1 x2 = some q) : tw_M l G yX8_last cX8_last 3 (some .int) rmX8_last 0 0 σ [.ref a, .int x1, .int x2] (some (.int q.1)) q.2 := by
  unfold fX8_last at h
  obtain ⟨_, -, h⟩ := tw_bd h
  refine tw_M.of (by decide +kernel) (Nat.le_of_ble_eq_true rfl) (fun p e s m args below meth c hnm hO => ?_)
  have hO : tw_O p s m args meth c cX8_last RX8 3 (some .int) G := hO
  refine tw_iload_n 1 hO dX8_last_0 rfl rfl ?_
  obtain ⟨v1, e1, h⟩ := tw_bd h
  refine tw_cSi hO (mX8_isThread l G e1) cfX8_isThread tw_w683 tw_w684 rfl rfl rfl rfl ⟨(Nat.le_of_ble_eq_true rfl), (Nat.le_of_ble_eq_true rfl)⟩ (Nat.le_of_ble_eq_true rfl) ⟨(Nat.le_of_ble_eq_true rfl), (Nat.le_of_ble_eq_true rfl)⟩ dX8_last_1 ?_
  refine tw_if_eq (tgt := 17) hO dX8_last_4 (by decide) (fun cc => ?_) (fun cc => ?_)
  · replace h := tw_ifp cc h
    refine tw_iconst (v := (-1)) hO dX8_last_17 (by decide) ?_
    exact tw_iret hO dX8_last_18 h
  · replace h := tw_ifn cc h
    refine tw_iload_n 2 hO dX8_last_7 rfl rfl ?_
    refine tw_iconst (v := 0) hO dX8_last_8 (by decide) ?_
    refine tw_bipush (v := 11) hO dX8_last_9 (by decide) ?_
    obtain ⟨v11, e11, h⟩ := tw_bd h
    refine tw_cSi hO (mX8_in l G e11) cfX8_in tw_w672 tw_w673 rfl rfl rfl rfl ⟨(Nat.le_of_ble_eq_true rfl), (Nat.le_of_ble_eq_true rfl)⟩ (Nat.le_of_ble_eq_true rfl) ⟨(Nat.le_of_ble_eq_true rfl), (Nat.le_of_ble_eq_true rfl)⟩ dX8_last_11 ?_
    refine tw_if_ne (tgt := 19) hO dX8_last_14 (by decide) (fun cc => ?_) (fun cc => ?_)
    · replace h := tw_ifn cc h
      refine tw_aload_n 0 hO dX8_last_19 rfl rfl ?_
      obtain ⟨q20, e20, h⟩ := tw_bd h
      refine tw_cVi hO (mX8_run l G e20) cfX8_run (t := 8) rfl (kX8_run e20) tw_w747 tw_w749 tw_w31 rfl rfl rfl rfl ⟨(Nat.le_of_ble_eq_true rfl), (Nat.le_of_ble_eq_true rfl)⟩ (Nat.le_of_ble_eq_true rfl) ⟨(Nat.le_of_ble_eq_true rfl), (Nat.le_of_ble_eq_true rfl)⟩ dX8_last_20 ?_
      refine tw_pop hO dX8_last_23 rfl ?_
      refine tw_aload_n 0 hO dX8_last_24 rfl rfl ?_
      refine tw_iload_n 1 hO dX8_last_25 rfl rfl ?_
      refine tw_iload_n 2 hO dX8_last_26 rfl rfl ?_
      obtain ⟨v27, e27, h⟩ := tw_bd h
      refine tw_cVi hO (mX8_value l G e27) cfX8_value (t := 8) rfl (kX8_value e27) tw_w790 tw_w792 tw_w41 rfl rfl rfl rfl ⟨(Nat.le_of_ble_eq_true rfl), (Nat.le_of_ble_eq_true rfl)⟩ (Nat.le_of_ble_eq_true rfl) ⟨(Nat.le_of_ble_eq_true rfl), (Nat.le_of_ble_eq_true rfl)⟩ dX8_last_27 ?_
      exact tw_iret hO dX8_last_30 h
    · replace h := tw_ifp cc h
      refine tw_iconst (v := (-1)) hO dX8_last_17 (by decide) ?_
      exact tw_iret hO dX8_last_18 h
theorem cfX8_ofStep : tw_CF yX8_ofStep cX8_ofStep 5 (some .int) 3 := ⟨tw_w817, tw_w56, by decide +kernel, by decide +kernel, by decide +kernel⟩
theorem kX8_ofStep {σ : tw_St} {a : Nat} {x1 : Int32} {x2 : Int32} {x3 : Int32} {q : Int32 × tw_St} (h : fX8_ofStep σ a x1 x2 x3 = some q) : tw_is σ 8 a = some () := by
  unfold fX8_ofStep at h
  obtain ⟨_, e1, -⟩ := tw_bd h
  exact e1
set_option maxRecDepth 100000 in
set_option maxHeartbeats 4000000 in
theorem mX8_ofStep (l : Launch) (G : tw_G) {σ : tw_St} {a : Nat} {x1 : Int32} {x2 : Int32} {x3 : Int32} {q : Int32 × tw_St} (h : fX8_ofStep σ a x1 x2 x3 = some q) : tw_M l G yX8_ofStep cX8_ofStep 5 (some .int) rmX8_ofStep 0 0 σ [.ref a, .int x1, .int x2, .int x3] (some (.int q.1)) q.2 := by
  unfold fX8_ofStep at h
  obtain ⟨_, -, h⟩ := tw_bd h
  refine tw_M.of (by decide +kernel) (Nat.le_of_ble_eq_true rfl) (fun p e s m args below meth c hnm hO => ?_)
  have hO : tw_O p s m args meth c cX8_ofStep RX8 5 (some .int) G := hO
  refine tw_aload_n 0 hO dX8_ofStep_0 rfl rfl ?_
  obtain ⟨q1, e1, h⟩ := tw_bd h
  refine tw_cVi hO (mX8_run l G e1) cfX8_run (t := 8) rfl (kX8_run e1) tw_w747 tw_w749 tw_w31 rfl rfl rfl rfl ⟨(Nat.le_of_ble_eq_true rfl), (Nat.le_of_ble_eq_true rfl)⟩ (Nat.le_of_ble_eq_true rfl) ⟨(Nat.le_of_ble_eq_true rfl), (Nat.le_of_ble_eq_true rfl)⟩ dX8_ofStep_1 ?_
  refine tw_pop hO dX8_ofStep_4 rfl ?_
  refine tw_iload_n 1 hO dX8_ofStep_5 rfl rfl ?_
  obtain ⟨v6, e6, h⟩ := tw_bd h
  refine tw_cSi hO (mX8_isThread l G e6) cfX8_isThread tw_w683 tw_w684 rfl rfl rfl rfl ⟨(Nat.le_of_ble_eq_true rfl), (Nat.le_of_ble_eq_true rfl)⟩ (Nat.le_of_ble_eq_true rfl) ⟨(Nat.le_of_ble_eq_true rfl), (Nat.le_of_ble_eq_true rfl)⟩ dX8_ofStep_6 ?_
  refine tw_if_eq (tgt := 28) hO dX8_ofStep_9 (by decide) (fun cc => ?_) (fun cc => ?_)
  · replace h := tw_ifp cc h
    refine tw_iconst (v := (-1)) hO dX8_ofStep_28 (by decide) ?_
    exact tw_iret hO dX8_ofStep_29 h
  · replace h := tw_ifn cc h
    refine tw_iload_n 2 hO dX8_ofStep_12 rfl rfl ?_
    refine tw_iconst (v := 0) hO dX8_ofStep_13 (by decide) ?_
    refine tw_aload_n 0 hO dX8_ofStep_14 rfl rfl ?_
    obtain ⟨v15, e15, h⟩ := tw_bd h
    refine tw_getP hO dX8_ofStep_15 (t := 8) rfl 17 (by decide) rfl tw_w612 rfl e15 ?_
    refine tw_iload_n 1 hO dX8_ofStep_18 rfl rfl ?_
    obtain ⟨v19, e19, h⟩ := tw_bd h
    refine tw_iald hO dX8_ofStep_19 e19 ?_
    refine tw_iconst (v := 1) hO dX8_ofStep_20 (by decide) ?_
    refine tw_isub hO dX8_ofStep_21 ?_
    obtain ⟨v22, e22, h⟩ := tw_bd h
    refine tw_cSi hO (mX8_in l G e22) cfX8_in tw_w672 tw_w673 rfl rfl rfl rfl ⟨(Nat.le_of_ble_eq_true rfl), (Nat.le_of_ble_eq_true rfl)⟩ (Nat.le_of_ble_eq_true rfl) ⟨(Nat.le_of_ble_eq_true rfl), (Nat.le_of_ble_eq_true rfl)⟩ dX8_ofStep_22 ?_
    refine tw_if_ne (tgt := 30) hO dX8_ofStep_25 (by decide) (fun cc => ?_) (fun cc => ?_)
    · replace h := tw_ifn cc h
      refine tw_bipush (v := 100) hO dX8_ofStep_30 (by decide) ?_
      refine tw_iload_n 1 hO dX8_ofStep_32 rfl rfl ?_
      refine tw_imul hO dX8_ofStep_33 ?_
      refine tw_iload_n 2 hO dX8_ofStep_34 rfl rfl ?_
      refine tw_iadd hO dX8_ofStep_35 ?_
      refine tw_istore (lv' := [(4, .int ((100 * x1) + x2)), (0, .ref a), (1, .int x1), (2, .int x2), (3, .int x3)]) hO dX8_ofStep_36 (by decide) rfl ?_
      refine tw_iload_n 4 hO dX8_ofStep_38 rfl rfl ?_
      refine tw_if_ne (tgt := 52) hO dX8_ofStep_39 (by decide) (fun cc => ?_) (fun cc => ?_)
      · replace h := tw_ifn cc h
        refine tw_iload_n 4 hO dX8_ofStep_52 rfl rfl ?_
        refine tw_iconst (v := 1) hO dX8_ofStep_53 (by decide) ?_
        refine tw_icmp_ne (tgt := 67) hO dX8_ofStep_54 (by decide) (fun cc => ?_) (fun cc => ?_)
        · replace h := tw_ifn cc h
          refine tw_iload_n 4 hO dX8_ofStep_67 rfl rfl ?_
          refine tw_iconst (v := 2) hO dX8_ofStep_68 (by decide) ?_
          refine tw_icmp_ne (tgt := 82) hO dX8_ofStep_69 (by decide) (fun cc => ?_) (fun cc => ?_)
          · replace h := tw_ifn cc h
            refine tw_iload_n 4 hO dX8_ofStep_82 rfl rfl ?_
            refine tw_iconst (v := 3) hO dX8_ofStep_83 (by decide) ?_
            refine tw_icmp_ne (tgt := 97) hO dX8_ofStep_84 (by decide) (fun cc => ?_) (fun cc => ?_)
            · replace h := tw_ifn cc h
              refine tw_bipush (v := (-2)) hO dX8_ofStep_97 (by decide) ?_
              exact tw_iret hO dX8_ofStep_99 h
            · replace h := tw_ifp cc h
              refine tw_aload_n 1 hO dX8_ofStep_87 rfl rfl ?_
              obtain ⟨v88, e88, h⟩ := tw_bd h
              refine tw_getP hO dX8_ofStep_88 (t := 8) rfl 16 (by decide) rfl tw_w611 rfl e88 ?_
              refine tw_iload 0 hO dX8_ofStep_91 rfl ?_
              obtain ⟨v93, e93, h⟩ := tw_bd h
              refine tw_iald hO dX8_ofStep_93 e93 ?_
              refine tw_goto (tgt := 99) hO dX8_ofStep_94 (by decide) ?_
              exact tw_iret hO dX8_ofStep_99 h
          · replace h := tw_ifp cc h
            refine tw_aload_n 1 hO dX8_ofStep_72 rfl rfl ?_
            obtain ⟨v73, e73, h⟩ := tw_bd h
            refine tw_getP hO dX8_ofStep_73 (t := 8) rfl 15 (by decide) rfl tw_w610 rfl e73 ?_
            refine tw_iload 0 hO dX8_ofStep_76 rfl ?_
            obtain ⟨v78, e78, h⟩ := tw_bd h
            refine tw_iald hO dX8_ofStep_78 e78 ?_
            refine tw_goto (tgt := 99) hO dX8_ofStep_79 (by decide) ?_
            exact tw_iret hO dX8_ofStep_99 h
        · replace h := tw_ifp cc h
          refine tw_aload_n 1 hO dX8_ofStep_57 rfl rfl ?_
          obtain ⟨v58, e58, h⟩ := tw_bd h
          refine tw_getP hO dX8_ofStep_58 (t := 8) rfl 14 (by decide) rfl tw_w609 rfl e58 ?_
          refine tw_iload 0 hO dX8_ofStep_61 rfl ?_
          obtain ⟨v63, e63, h⟩ := tw_bd h
          refine tw_iald hO dX8_ofStep_63 e63 ?_
          refine tw_goto (tgt := 99) hO dX8_ofStep_64 (by decide) ?_
          exact tw_iret hO dX8_ofStep_99 h
      · replace h := tw_ifp cc h
        refine tw_aload_n 1 hO dX8_ofStep_42 rfl rfl ?_
        obtain ⟨v43, e43, h⟩ := tw_bd h
        refine tw_getP hO dX8_ofStep_43 (t := 8) rfl 13 (by decide) rfl tw_w608 rfl e43 ?_
        refine tw_iload 0 hO dX8_ofStep_46 rfl ?_
        obtain ⟨v48, e48, h⟩ := tw_bd h
        refine tw_iald hO dX8_ofStep_48 e48 ?_
        refine tw_goto (tgt := 99) hO dX8_ofStep_49 (by decide) ?_
        exact tw_iret hO dX8_ofStep_99 h
    · replace h := tw_ifp cc h
      refine tw_iconst (v := (-1)) hO dX8_ofStep_28 (by decide) ?_
      exact tw_iret hO dX8_ofStep_29 h
theorem cfX8_at : tw_CF yX8_at cX8_at 6 (some .int) 2 := ⟨tw_w821, tw_w56, by decide +kernel, by decide +kernel, by decide +kernel⟩
theorem kX8_at {σ : tw_St} {a : Nat} {x1 : Int32} {x2 : Int32} {q : Int32 × tw_St} (h : fX8_at σ a x1 x2 = some q) : tw_is σ 8 a = some () := by
  unfold fX8_at at h
  obtain ⟨_, e1, -⟩ := tw_bd h
  exact e1
set_option maxRecDepth 100000 in
set_option maxHeartbeats 4000000 in
theorem wX8_at_b132 (hO : tw_O p s m args meth c cX8_at RX8 6 (some .int) G) {k23 : (tw_St → Nat → Int32 → Int32 → Int32 → Option (Int32 × tw_St))} (hk23 : ∀ (σ : tw_St) (a0 : Nat) (x1 : Int32) (x2 : Int32) (x3 : Int32) (q : Int32 × tw_St), k23 σ a0 x1 x2 x3 = some q → tw_X p l e rmX8_at s m args below meth c 6 G σ 0 0 (tw_Q below args s G 0 0 (some (.int q.1)) q.2) 23 [(0, .ref a0), (1, .int x1), (2, .int x2), (3, .int x3)] []) {σ : tw_St} {a0 : Nat} {x1 : Int32} {x2 : Int32} {x3 : Int32} {q : Int32 × tw_St} (h : fX8_at_b132 k23 σ a0 x1 x2 x3 = some q) : tw_X p l e rmX8_at s m args below meth c 6 G σ 0 0 (tw_Q below args s G 0 0 (some (.int q.1)) q.2) 132 [(0, .ref a0), (1, .int x1), (2, .int x2), (3, .int x3)] [] := by
  unfold fX8_at_b132 at h
  refine tw_iinc (q := 3) (v := (x3 + 1)) (lv' := [(3, .int (x3 + 1)), (0, .ref a0), (1, .int x1), (2, .int x2)]) hO dX8_at_132 rfl rfl (by decide) rfl ?_
  refine tw_goto (tgt := 23) hO dX8_at_135 (by decide) ?_
  refine tw_sub [1, 2, 3, 0] rfl ?_
  exact hk23 _ _ _ _ _ _ h
set_option maxRecDepth 100000 in
set_option maxHeartbeats 4000000 in
theorem wX8_at_b126 (hO : tw_O p s m args meth c cX8_at RX8 6 (some .int) G) {k23 : (tw_St → Nat → Int32 → Int32 → Int32 → Option (Int32 × tw_St))} {k34 : (tw_St → Nat → Int32 → Int32 → Int32 → Int32 → Option (Int32 × tw_St))} (hk23 : ∀ (σ : tw_St) (a0 : Nat) (x1 : Int32) (x2 : Int32) (x3 : Int32) (q : Int32 × tw_St), k23 σ a0 x1 x2 x3 = some q → tw_X p l e rmX8_at s m args below meth c 6 G σ 0 0 (tw_Q below args s G 0 0 (some (.int q.1)) q.2) 23 [(0, .ref a0), (1, .int x1), (2, .int x2), (3, .int x3)] []) (hk34 : ∀ (σ : tw_St) (a0 : Nat) (x1 : Int32) (x2 : Int32) (x3 : Int32) (x4 : Int32) (q : Int32 × tw_St), k34 σ a0 x1 x2 x3 x4 = some q → tw_X p l e rmX8_at s m args below meth c 6 G σ 0 0 (tw_Q below args s G 0 0 (some (.int q.1)) q.2) 34 [(0, .ref a0), (1, .int x1), (2, .int x2), (3, .int x3), (4, .int x4)] []) {σ : tw_St} {a0 : Nat} {x1 : Int32} {x2 : Int32} {x3 : Int32} {x4 : Int32} {q : Int32 × tw_St} (h : fX8_at_b126 k23 k34 σ a0 x1 x2 x3 x4 = some q) : tw_X p l e rmX8_at s m args below meth c 6 G σ 0 0 (tw_Q below args s G 0 0 (some (.int q.1)) q.2) 126 [(0, .ref a0), (1, .int x1), (2, .int x2), (3, .int x3), (4, .int x4)] [] := by
  unfold fX8_at_b126 at h
  refine tw_iinc (q := 4) (v := (x4 + 1)) (lv' := [(4, .int (x4 + 1)), (0, .ref a0), (1, .int x1), (2, .int x2), (3, .int x3)]) hO dX8_at_126 rfl rfl (by decide) rfl ?_
  refine tw_goto (tgt := 34) hO dX8_at_129 (by decide) ?_
  refine tw_sub [1, 2, 3, 4, 0] rfl ?_
  exact hk34 _ _ _ _ _ _ _ h
set_option maxRecDepth 100000 in
set_option maxHeartbeats 4000000 in
theorem wX8_at_b116 (hO : tw_O p s m args meth c cX8_at RX8 6 (some .int) G) {σ : tw_St} {x3 : Int32} {q : Int32 × tw_St} (h : fX8_at_b116 σ x3 = some q) : tw_X p l e rmX8_at s m args below meth c 6 G σ 0 0 (tw_Q below args s G 0 0 (some (.int q.1)) q.2) 116 [(3, .int x3)] [] := by
  unfold fX8_at_b116 at h
  refine tw_goto (tgt := 124) hO dX8_at_116 (by decide) ?_
  refine tw_iload_n 0 hO dX8_at_124 rfl rfl ?_
  exact tw_iret hO dX8_at_125 h
set_option maxRecDepth 100000 in
set_option maxHeartbeats 4000000 in
theorem wX8_at_b99 (hO : tw_O p s m args meth c cX8_at RX8 6 (some .int) G) {k23 : (tw_St → Nat → Int32 → Int32 → Int32 → Option (Int32 × tw_St))} {k34 : (tw_St → Nat → Int32 → Int32 → Int32 → Int32 → Option (Int32 × tw_St))} (hk23 : ∀ (σ : tw_St) (a0 : Nat) (x1 : Int32) (x2 : Int32) (x3 : Int32) (q : Int32 × tw_St), k23 σ a0 x1 x2 x3 = some q → tw_X p l e rmX8_at s m args below meth c 6 G σ 0 0 (tw_Q below args s G 0 0 (some (.int q.1)) q.2) 23 [(0, .ref a0), (1, .int x1), (2, .int x2), (3, .int x3)] []) (hk34 : ∀ (σ : tw_St) (a0 : Nat) (x1 : Int32) (x2 : Int32) (x3 : Int32) (x4 : Int32) (q : Int32 × tw_St), k34 σ a0 x1 x2 x3 x4 = some q → tw_X p l e rmX8_at s m args below meth c 6 G σ 0 0 (tw_Q below args s G 0 0 (some (.int q.1)) q.2) 34 [(0, .ref a0), (1, .int x1), (2, .int x2), (3, .int x3), (4, .int x4)] []) {σ : tw_St} {a0 : Nat} {x1 : Int32} {x2 : Int32} {x3 : Int32} {x4 : Int32} {z0 : Int32} {q : Int32 × tw_St} (h : fX8_at_b99 k23 k34 σ a0 x1 x2 x3 x4 z0 = some q) : tw_X p l e rmX8_at s m args below meth c 6 G σ 0 0 (tw_Q below args s G 0 0 (some (.int q.1)) q.2) 99 [(0, .ref a0), (1, .int x1), (2, .int x2), (3, .int x3), (4, .int x4)] [.int z0] := by
  unfold fX8_at_b99 at h
  refine tw_istore (lv' := [(5, .int z0), (0, .ref a0), (1, .int x1), (2, .int x2), (3, .int x3), (4, .int x4)]) hO dX8_at_99 (by decide) rfl ?_
  refine tw_iload_n 3 hO dX8_at_101 rfl rfl ?_
  refine tw_if_ne (tgt := 119) hO dX8_at_102 (by decide) (fun cc => ?_) (fun cc => ?_)
  · replace h := tw_ifn cc h
    refine tw_iload 0 hO dX8_at_119 rfl ?_
    refine tw_if_eq (tgt := 126) hO dX8_at_121 (by decide) (fun cc => ?_) (fun cc => ?_)
    · replace h := tw_ifp cc h
      refine tw_sub [1, 2, 3, 4, 5] rfl ?_
      exact wX8_at_b126 hO hk23 hk34 h
    · replace h := tw_ifn cc h
      refine tw_iload_n 4 hO dX8_at_124 rfl rfl ?_
      exact tw_iret hO dX8_at_125 h
  · replace h := tw_ifp cc h
    refine tw_aload_n 1 hO dX8_at_105 rfl rfl ?_
    obtain ⟨v106, e106, h⟩ := tw_bd h
    refine tw_getP hO dX8_at_106 (t := 8) rfl 13 (by decide) rfl tw_w608 rfl e106 ?_
    refine tw_iload 5 hO dX8_at_109 rfl ?_
    obtain ⟨v111, e111, h⟩ := tw_bd h
    refine tw_iald hO dX8_at_111 e111 ?_
    refine tw_iload_n 2 hO dX8_at_112 rfl rfl ?_
    refine tw_icmp_ne (tgt := 126) hO dX8_at_113 (by decide) (fun cc => ?_) (fun cc => ?_)
    · replace h := tw_ifn cc h
      refine tw_sub [1, 2, 3, 4, 5] rfl ?_
      exact wX8_at_b126 hO hk23 hk34 h
    · replace h := tw_ifp cc h
      refine tw_sub [4] rfl ?_
      exact wX8_at_b116 hO h
set_option maxRecDepth 100000 in
set_option maxHeartbeats 4000000 in
theorem wX8_at_b98 (hO : tw_O p s m args meth c cX8_at RX8 6 (some .int) G) {k23 : (tw_St → Nat → Int32 → Int32 → Int32 → Option (Int32 × tw_St))} {k34 : (tw_St → Nat → Int32 → Int32 → Int32 → Int32 → Option (Int32 × tw_St))} (hk23 : ∀ (σ : tw_St) (a0 : Nat) (x1 : Int32) (x2 : Int32) (x3 : Int32) (q : Int32 × tw_St), k23 σ a0 x1 x2 x3 = some q → tw_X p l e rmX8_at s m args below meth c 6 G σ 0 0 (tw_Q below args s G 0 0 (some (.int q.1)) q.2) 23 [(0, .ref a0), (1, .int x1), (2, .int x2), (3, .int x3)] []) (hk34 : ∀ (σ : tw_St) (a0 : Nat) (x1 : Int32) (x2 : Int32) (x3 : Int32) (x4 : Int32) (q : Int32 × tw_St), k34 σ a0 x1 x2 x3 x4 = some q → tw_X p l e rmX8_at s m args below meth c 6 G σ 0 0 (tw_Q below args s G 0 0 (some (.int q.1)) q.2) 34 [(0, .ref a0), (1, .int x1), (2, .int x2), (3, .int x3), (4, .int x4)] []) {σ : tw_St} {a0 : Nat} {x1 : Int32} {x2 : Int32} {x3 : Int32} {x4 : Int32} {q : Int32 × tw_St} (h : fX8_at_b98 k23 k34 σ a0 x1 x2 x3 x4 = some q) : tw_X p l e rmX8_at s m args below meth c 6 G σ 0 0 (tw_Q below args s G 0 0 (some (.int q.1)) q.2) 98 [(0, .ref a0), (1, .int x1), (2, .int x2), (3, .int x3), (4, .int x4)] [] := by
  unfold fX8_at_b98 at h
  refine tw_iconst (v := 0) hO dX8_at_98 (by decide) ?_
  exact wX8_at_b99 hO hk23 hk34 h
set_option maxRecDepth 100000 in
set_option maxHeartbeats 4000000 in
theorem wX8_at_h34 (hO : tw_O p s m args meth c cX8_at RX8 6 (some .int) G) {k23 : (tw_St → Nat → Int32 → Int32 → Int32 → Option (Int32 × tw_St))} {k34 : (tw_St → Nat → Int32 → Int32 → Int32 → Int32 → Option (Int32 × tw_St))} (hk23 : ∀ (σ : tw_St) (a0 : Nat) (x1 : Int32) (x2 : Int32) (x3 : Int32) (q : Int32 × tw_St), k23 σ a0 x1 x2 x3 = some q → tw_X p l e rmX8_at s m args below meth c 6 G σ 0 0 (tw_Q below args s G 0 0 (some (.int q.1)) q.2) 23 [(0, .ref a0), (1, .int x1), (2, .int x2), (3, .int x3)] []) (hk34 : ∀ (σ : tw_St) (a0 : Nat) (x1 : Int32) (x2 : Int32) (x3 : Int32) (x4 : Int32) (q : Int32 × tw_St), k34 σ a0 x1 x2 x3 x4 = some q → tw_X p l e rmX8_at s m args below meth c 6 G σ 0 0 (tw_Q below args s G 0 0 (some (.int q.1)) q.2) 34 [(0, .ref a0), (1, .int x1), (2, .int x2), (3, .int x3), (4, .int x4)] []) {σ : tw_St} {a0 : Nat} {x1 : Int32} {x2 : Int32} {x3 : Int32} {x4 : Int32} {q : Int32 × tw_St} (h : fX8_at_h34 k23 k34 σ a0 x1 x2 x3 x4 = some q) : tw_X p l e rmX8_at s m args below meth c 6 G σ 0 0 (tw_Q below args s G 0 0 (some (.int q.1)) q.2) 34 [(0, .ref a0), (1, .int x1), (2, .int x2), (3, .int x3), (4, .int x4)] [] := by
  unfold fX8_at_h34 at h
  refine tw_iload 4 hO dX8_at_34 rfl ?_
  refine tw_bipush (v := 100) hO dX8_at_36 (by decide) ?_
  refine tw_iload_n 3 hO dX8_at_38 rfl rfl ?_
  refine tw_imul hO dX8_at_39 ?_
  refine tw_aload_n 0 hO dX8_at_40 rfl rfl ?_
  obtain ⟨v41, e41, h⟩ := tw_bd h
  refine tw_getP hO dX8_at_41 (t := 8) rfl 17 (by decide) rfl tw_w612 rfl e41 ?_
  refine tw_iload_n 3 hO dX8_at_44 rfl rfl ?_
  obtain ⟨v45, e45, h⟩ := tw_bd h
  refine tw_iald hO dX8_at_45 e45 ?_
  refine tw_iadd hO dX8_at_46 ?_
  refine tw_icmp_ge (tgt := 132) hO dX8_at_47 (by decide) (fun cc => ?_) (fun cc => ?_)
  · replace h := tw_ifp cc h
    refine tw_sub [0, 1, 2, 3] rfl ?_
    exact wX8_at_b132 hO hk23 h
  · replace h := tw_ifn cc h
    refine tw_aload_n 0 hO dX8_at_50 rfl rfl ?_
    obtain ⟨v51, e51, h⟩ := tw_bd h
    refine tw_getP hO dX8_at_51 (t := 8) rfl 13 (by decide) rfl tw_w608 rfl e51 ?_
    refine tw_iload 4 hO dX8_at_54 rfl ?_
    obtain ⟨v56, e56, h⟩ := tw_bd h
    refine tw_iald hO dX8_at_56 e56 ?_
    refine tw_iload_n 1 hO dX8_at_57 rfl rfl ?_
    refine tw_icmp_gt (tgt := 98) hO dX8_at_58 (by decide) (fun cc => ?_) (fun cc => ?_)
    · replace h := tw_ifp cc h
      exact wX8_at_b98 hO hk23 hk34 h
    · replace h := tw_ifn cc h
      refine tw_iload_n 1 hO dX8_at_61 rfl rfl ?_
      refine tw_aload_n 0 hO dX8_at_62 rfl rfl ?_
      obtain ⟨v63, e63, h⟩ := tw_bd h
      refine tw_getP hO dX8_at_63 (t := 8) rfl 15 (by decide) rfl tw_w610 rfl e63 ?_
      refine tw_iload 4 hO dX8_at_66 rfl ?_
      obtain ⟨v68, e68, h⟩ := tw_bd h
      refine tw_iald hO dX8_at_68 e68 ?_
      refine tw_icmp_ge (tgt := 98) hO dX8_at_69 (by decide) (fun cc => ?_) (fun cc => ?_)
      · replace h := tw_ifp cc h
        exact wX8_at_b98 hO hk23 hk34 h
      · replace h := tw_ifn cc h
        refine tw_aload_n 0 hO dX8_at_72 rfl rfl ?_
        refine tw_iload_n 3 hO dX8_at_73 rfl rfl ?_
        refine tw_aload_n 0 hO dX8_at_74 rfl rfl ?_
        obtain ⟨v75, e75, h⟩ := tw_bd h
        refine tw_getP hO dX8_at_75 (t := 8) rfl 14 (by decide) rfl tw_w609 rfl e75 ?_
        refine tw_iload 4 hO dX8_at_78 rfl ?_
        obtain ⟨v80, e80, h⟩ := tw_bd h
        refine tw_iald hO dX8_at_80 e80 ?_
        refine tw_iconst (v := 0) hO dX8_at_81 (by decide) ?_
        obtain ⟨v82, e82, h⟩ := tw_bd h
        refine tw_cVi hO (mX8_of l G e82) cfX8_of (t := 8) rfl (kX8_of e82) tw_w767 tw_w769 tw_w36 rfl rfl rfl rfl ⟨(Nat.le_of_ble_eq_true rfl), (Nat.le_of_ble_eq_true rfl)⟩ (Nat.le_of_ble_eq_true rfl) ⟨(Nat.le_of_ble_eq_true rfl), (Nat.le_of_ble_eq_true rfl)⟩ dX8_at_82 ?_
        obtain ⟨v85, e85, h⟩ := tw_bd h
        refine tw_cSi hO (mX8_roomOf l G e85) cfX8_roomOf tw_w771 tw_w772 rfl rfl rfl rfl ⟨(Nat.le_of_ble_eq_true rfl), (Nat.le_of_ble_eq_true rfl)⟩ (Nat.le_of_ble_eq_true rfl) ⟨(Nat.le_of_ble_eq_true rfl), (Nat.le_of_ble_eq_true rfl)⟩ dX8_at_85 ?_
        refine tw_iload_n 2 hO dX8_at_88 rfl rfl ?_
        refine tw_iconst (v := 1) hO dX8_at_89 (by decide) ?_
        refine tw_isub hO dX8_at_90 ?_
        refine tw_icmp_ne (tgt := 98) hO dX8_at_91 (by decide) (fun cc => ?_) (fun cc => ?_)
        · replace h := tw_ifn cc h
          exact wX8_at_b98 hO hk23 hk34 h
        · replace h := tw_ifp cc h
          refine tw_iconst (v := 1) hO dX8_at_94 (by decide) ?_
          refine tw_goto (tgt := 99) hO dX8_at_95 (by decide) ?_
          exact wX8_at_b99 hO hk23 hk34 h
set_option maxRecDepth 100000 in
set_option maxHeartbeats 4000000 in
theorem wX8_at_l34 (hO : tw_O p s m args meth c cX8_at RX8 6 (some .int) G) {k23 : (tw_St → Nat → Int32 → Int32 → Int32 → Option (Int32 × tw_St))} (hk23 : ∀ (σ : tw_St) (a0 : Nat) (x1 : Int32) (x2 : Int32) (x3 : Int32) (q : Int32 × tw_St), k23 σ a0 x1 x2 x3 = some q → tw_X p l e rmX8_at s m args below meth c 6 G σ 0 0 (tw_Q below args s G 0 0 (some (.int q.1)) q.2) 23 [(0, .ref a0), (1, .int x1), (2, .int x2), (3, .int x3)] []) : ∀ (n : Nat) (σ : tw_St) (a0 : Nat) (x1 : Int32) (x2 : Int32) (x3 : Int32) (x4 : Int32) (q : Int32 × tw_St), fX8_at_l34 k23 n σ a0 x1 x2 x3 x4 = some q → tw_X p l e rmX8_at s m args below meth c 6 G σ 0 0 (tw_Q below args s G 0 0 (some (.int q.1)) q.2) 34 [(0, .ref a0), (1, .int x1), (2, .int x2), (3, .int x3), (4, .int x4)] [] := by
  intro n
  induction n with
  | zero => intro _ _ _ _ _ _ q h; cases (show (none : Option (Int32 × tw_St)) = some q from h)
  | succ n ih => intro _ _ _ _ _ _ q h; exact wX8_at_h34 hO hk23 ih h
set_option maxRecDepth 100000 in
set_option maxHeartbeats 4000000 in
theorem wX8_at_h23 (hO : tw_O p s m args meth c cX8_at RX8 6 (some .int) G) {k23 : (tw_St → Nat → Int32 → Int32 → Int32 → Option (Int32 × tw_St))} (hk23 : ∀ (σ : tw_St) (a0 : Nat) (x1 : Int32) (x2 : Int32) (x3 : Int32) (q : Int32 × tw_St), k23 σ a0 x1 x2 x3 = some q → tw_X p l e rmX8_at s m args below meth c 6 G σ 0 0 (tw_Q below args s G 0 0 (some (.int q.1)) q.2) 23 [(0, .ref a0), (1, .int x1), (2, .int x2), (3, .int x3)] []) {σ : tw_St} {a0 : Nat} {x1 : Int32} {x2 : Int32} {x3 : Int32} {q : Int32 × tw_St} (h : fX8_at_h23 k23 σ a0 x1 x2 x3 = some q) : tw_X p l e rmX8_at s m args below meth c 6 G σ 0 0 (tw_Q below args s G 0 0 (some (.int q.1)) q.2) 23 [(0, .ref a0), (1, .int x1), (2, .int x2), (3, .int x3)] [] := by
  unfold fX8_at_h23 at h
  refine tw_iload_n 3 hO dX8_at_23 rfl rfl ?_
  refine tw_iconst (v := 2) hO dX8_at_24 (by decide) ?_
  refine tw_icmp_ge (tgt := 138) hO dX8_at_25 (by decide) (fun cc => ?_) (fun cc => ?_)
  · replace h := tw_ifp cc h
    refine tw_bipush (v := (-6)) hO dX8_at_138 (by decide) ?_
    exact tw_iret hO dX8_at_140 h
  · replace h := tw_ifn cc h
    refine tw_bipush (v := 100) hO dX8_at_28 (by decide) ?_
    refine tw_iload_n 3 hO dX8_at_30 rfl rfl ?_
    refine tw_imul hO dX8_at_31 ?_
    refine tw_istore (lv' := [(4, .int (100 * x3)), (0, .ref a0), (1, .int x1), (2, .int x2), (3, .int x3)]) hO dX8_at_32 (by decide) rfl ?_
    refine tw_sub [1, 2, 3, 4, 0] rfl ?_
    exact wX8_at_l34 hO hk23 _ _ _ _ _ _ _ _ h
set_option maxRecDepth 100000 in
set_option maxHeartbeats 4000000 in
theorem wX8_at_l23 (hO : tw_O p s m args meth c cX8_at RX8 6 (some .int) G) : ∀ (n : Nat) (σ : tw_St) (a0 : Nat) (x1 : Int32) (x2 : Int32) (x3 : Int32) (q : Int32 × tw_St), fX8_at_l23 n σ a0 x1 x2 x3 = some q → tw_X p l e rmX8_at s m args below meth c 6 G σ 0 0 (tw_Q below args s G 0 0 (some (.int q.1)) q.2) 23 [(0, .ref a0), (1, .int x1), (2, .int x2), (3, .int x3)] [] := by
  intro n
  induction n with
  | zero => intro _ _ _ _ _ q h; cases (show (none : Option (Int32 × tw_St)) = some q from h)
  | succ n ih => intro _ _ _ _ _ q h; exact wX8_at_h23 hO ih h
set_option maxRecDepth 100000 in
set_option maxHeartbeats 4000000 in
theorem mX8_at (l : Launch) (G : tw_G) {σ : tw_St} {a : Nat} {x1 : Int32} {x2 : Int32} {q : Int32 × tw_St} (h : fX8_at σ a x1 x2 = some q) : tw_M l G yX8_at cX8_at 6 (some .int) rmX8_at 0 0 σ [.ref a, .int x1, .int x2] (some (.int q.1)) q.2 := by
  unfold fX8_at at h
  obtain ⟨_, -, h⟩ := tw_bd h
  refine tw_M.of (by decide +kernel) (Nat.le_of_ble_eq_true rfl) (fun p e s m args below meth c hnm hO => ?_)
  have hO : tw_O p s m args meth c cX8_at RX8 6 (some .int) G := hO
  refine tw_iload_n 1 hO dX8_at_0 rfl rfl ?_
  refine tw_if_lt (tgt := 13) hO dX8_at_1 (by decide) (fun cc => ?_) (fun cc => ?_)
  · replace h := tw_ifp cc h
    refine tw_bipush (v := (-2)) hO dX8_at_13 (by decide) ?_
    exact tw_iret hO dX8_at_15 h
  · replace h := tw_ifn cc h
    refine tw_iload_n 2 hO dX8_at_4 rfl rfl ?_
    refine tw_iconst (v := 0) hO dX8_at_5 (by decide) ?_
    refine tw_iconst (v := 2) hO dX8_at_6 (by decide) ?_
    obtain ⟨v7, e7, h⟩ := tw_bd h
    refine tw_cSi hO (mX8_in l G e7) cfX8_in tw_w672 tw_w673 rfl rfl rfl rfl ⟨(Nat.le_of_ble_eq_true rfl), (Nat.le_of_ble_eq_true rfl)⟩ (Nat.le_of_ble_eq_true rfl) ⟨(Nat.le_of_ble_eq_true rfl), (Nat.le_of_ble_eq_true rfl)⟩ dX8_at_7 ?_
    refine tw_if_ne (tgt := 16) hO dX8_at_10 (by decide) (fun cc => ?_) (fun cc => ?_)
    · replace h := tw_ifn cc h
      refine tw_aload_n 0 hO dX8_at_16 rfl rfl ?_
      obtain ⟨q17, e17, h⟩ := tw_bd h
      refine tw_cVi hO (mX8_run l G e17) cfX8_run (t := 8) rfl (kX8_run e17) tw_w747 tw_w749 tw_w31 rfl rfl rfl rfl ⟨(Nat.le_of_ble_eq_true rfl), (Nat.le_of_ble_eq_true rfl)⟩ (Nat.le_of_ble_eq_true rfl) ⟨(Nat.le_of_ble_eq_true rfl), (Nat.le_of_ble_eq_true rfl)⟩ dX8_at_17 ?_
      refine tw_pop hO dX8_at_20 rfl ?_
      refine tw_iconst (v := 0) hO dX8_at_21 (by decide) ?_
      refine tw_istore_n (lv' := [(3, .int 0), (0, .ref a), (1, .int x1), (2, .int x2)]) hO dX8_at_22 rfl (by decide) rfl ?_
      refine tw_sub [1, 2, 3, 0] rfl ?_
      exact wX8_at_l23 hO _ _ _ _ _ _ _ h
    · replace h := tw_ifp cc h
      refine tw_bipush (v := (-2)) hO dX8_at_13 (by decide) ?_
      exact tw_iret hO dX8_at_15 h
theorem cfX8_count : tw_CF yX8_count cX8_count 3 (some .int) 1 := ⟨tw_w825, tw_w56, by decide +kernel, by decide +kernel, by decide +kernel⟩
theorem kX8_count {σ : tw_St} {a : Nat} {x1 : Int32} {q : Int32 × tw_St} (h : fX8_count σ a x1 = some q) : tw_is σ 8 a = some () := by
  unfold fX8_count at h
  obtain ⟨_, e1, -⟩ := tw_bd h
  exact e1
set_option maxRecDepth 100000 in
set_option maxHeartbeats 4000000 in
theorem mX8_count (l : Launch) (G : tw_G) {σ : tw_St} {a : Nat} {x1 : Int32} {q : Int32 × tw_St} (h : fX8_count σ a x1 = some q) : tw_M l G yX8_count cX8_count 3 (some .int) rmX8_count 0 0 σ [.ref a, .int x1] (some (.int q.1)) q.2 := by
  unfold fX8_count at h
  obtain ⟨_, -, h⟩ := tw_bd h
  refine tw_M.of (by decide +kernel) (Nat.le_of_ble_eq_true rfl) (fun p e s m args below meth c hnm hO => ?_)
  have hO : tw_O p s m args meth c cX8_count RX8 3 (some .int) G := hO
  refine tw_iload_n 1 hO dX8_count_0 rfl rfl ?_
  refine tw_bipush (v := 7) hO dX8_count_1 (by decide) ?_
  refine tw_bipush (v := 9) hO dX8_count_3 (by decide) ?_
  obtain ⟨v5, e5, h⟩ := tw_bd h
  refine tw_cSi hO (mX8_in l G e5) cfX8_in tw_w672 tw_w673 rfl rfl rfl rfl ⟨(Nat.le_of_ble_eq_true rfl), (Nat.le_of_ble_eq_true rfl)⟩ (Nat.le_of_ble_eq_true rfl) ⟨(Nat.le_of_ble_eq_true rfl), (Nat.le_of_ble_eq_true rfl)⟩ dX8_count_5 ?_
  refine tw_if_eq (tgt := 21) hO dX8_count_8 (by decide) (fun cc => ?_) (fun cc => ?_)
  · replace h := tw_ifp cc h
    refine tw_aload_n 0 hO dX8_count_21 rfl rfl ?_
    obtain ⟨q22, e22, h⟩ := tw_bd h
    refine tw_cVi hO (mX8_run l G e22) cfX8_run (t := 8) rfl (kX8_run e22) tw_w747 tw_w749 tw_w31 rfl rfl rfl rfl ⟨(Nat.le_of_ble_eq_true rfl), (Nat.le_of_ble_eq_true rfl)⟩ (Nat.le_of_ble_eq_true rfl) ⟨(Nat.le_of_ble_eq_true rfl), (Nat.le_of_ble_eq_true rfl)⟩ dX8_count_22 ?_
    refine tw_istore_n (lv' := [(2, .int q22.1), (0, .ref a), (1, .int x1)]) hO dX8_count_25 rfl (by decide) rfl ?_
    refine tw_iload_n 2 hO dX8_count_26 rfl rfl ?_
    by_cases s0 : x1 = 0
    · replace h := tw_ifp s0 h
      refine tw_tableIn (off := 37) (tgt := 64) hO dX8_count_27 (by rw [s0]; decide) (by rw [s0]; decide) (by rw [s0]; rfl) (by decide) ?_
      refine tw_iload_n 0 hO dX8_count_64 rfl rfl ?_
      exact tw_iret hO dX8_count_65 h
    replace h := tw_ifn s0 h
    by_cases s1 : x1 = 1
    · replace h := tw_ifp s1 h
      refine tw_tableIn (off := 39) (tgt := 66) hO dX8_count_27 (by rw [s1]; decide) (by rw [s1]; decide) (by rw [s1]; rfl) (by decide) ?_
      refine tw_aload_n 1 hO dX8_count_66 rfl rfl ?_
      obtain ⟨v67, e67, h⟩ := tw_bd h
      refine tw_getP hO dX8_count_67 (t := 8) rfl 17 (by decide) rfl tw_w612 rfl e67 ?_
      refine tw_iconst (v := 0) hO dX8_count_70 (by decide) ?_
      obtain ⟨v71, e71, h⟩ := tw_bd h
      refine tw_iald hO dX8_count_71 e71 ?_
      refine tw_aload_n 1 hO dX8_count_72 rfl rfl ?_
      obtain ⟨v73, e73, h⟩ := tw_bd h
      refine tw_getP hO dX8_count_73 (t := 8) rfl 17 (by decide) rfl tw_w612 rfl e73 ?_
      refine tw_iconst (v := 1) hO dX8_count_76 (by decide) ?_
      obtain ⟨v77, e77, h⟩ := tw_bd h
      refine tw_iald hO dX8_count_77 e77 ?_
      refine tw_iadd hO dX8_count_78 ?_
      exact tw_iret hO dX8_count_79 h
    replace h := tw_ifn s1 h
    by_cases s2 : x1 = 2
    · replace h := tw_ifp s2 h
      refine tw_tableIn (off := 53) (tgt := 80) hO dX8_count_27 (by rw [s2]; decide) (by rw [s2]; decide) (by rw [s2]; rfl) (by decide) ?_
      refine tw_iload_n 0 hO dX8_count_80 rfl rfl ?_
      refine tw_aload_n 1 hO dX8_count_81 rfl rfl ?_
      obtain ⟨v82, e82, h⟩ := tw_bd h
      refine tw_getP hO dX8_count_82 (t := 8) rfl 17 (by decide) rfl tw_w612 rfl e82 ?_
      refine tw_iconst (v := 0) hO dX8_count_85 (by decide) ?_
      obtain ⟨v86, e86, h⟩ := tw_bd h
      refine tw_iald hO dX8_count_86 e86 ?_
      refine tw_isub hO dX8_count_87 ?_
      refine tw_aload_n 1 hO dX8_count_88 rfl rfl ?_
      obtain ⟨v89, e89, h⟩ := tw_bd h
      refine tw_getP hO dX8_count_89 (t := 8) rfl 17 (by decide) rfl tw_w612 rfl e89 ?_
      refine tw_iconst (v := 1) hO dX8_count_92 (by decide) ?_
      obtain ⟨v93, e93, h⟩ := tw_bd h
      refine tw_iald hO dX8_count_93 e93 ?_
      refine tw_isub hO dX8_count_94 ?_
      exact tw_iret hO dX8_count_95 h
    replace h := tw_ifn s2 h
    by_cases s3 : x1 = 3
    · replace h := tw_ifp s3 h
      refine tw_tableIn (off := 69) (tgt := 96) hO dX8_count_27 (by rw [s3]; decide) (by rw [s3]; decide) (by rw [s3]; rfl) (by decide) ?_
      refine tw_aload_n 1 hO dX8_count_96 rfl rfl ?_
      refine tw_iconst (v := 0) hO dX8_count_97 (by decide) ?_
      refine tw_iconst (v := 0) hO dX8_count_98 (by decide) ?_
      obtain ⟨v99, e99, h⟩ := tw_bd h
      refine tw_cVi hO (mX8_stepsOf l G e99) cfX8_stepsOf (t := 8) rfl (kX8_stepsOf e99) tw_w806 tw_w808 tw_w43 rfl rfl rfl rfl ⟨(Nat.le_of_ble_eq_true rfl), (Nat.le_of_ble_eq_true rfl)⟩ (Nat.le_of_ble_eq_true rfl) ⟨(Nat.le_of_ble_eq_true rfl), (Nat.le_of_ble_eq_true rfl)⟩ dX8_count_99 ?_
      refine tw_aload_n 1 hO dX8_count_102 rfl rfl ?_
      refine tw_iconst (v := 1) hO dX8_count_103 (by decide) ?_
      refine tw_iconst (v := 0) hO dX8_count_104 (by decide) ?_
      obtain ⟨v105, e105, h⟩ := tw_bd h
      refine tw_cVi hO (mX8_stepsOf l G e105) cfX8_stepsOf (t := 8) rfl (kX8_stepsOf e105) tw_w806 tw_w808 tw_w43 rfl rfl rfl rfl ⟨(Nat.le_of_ble_eq_true rfl), (Nat.le_of_ble_eq_true rfl)⟩ (Nat.le_of_ble_eq_true rfl) ⟨(Nat.le_of_ble_eq_true rfl), (Nat.le_of_ble_eq_true rfl)⟩ dX8_count_105 ?_
      refine tw_iadd hO dX8_count_108 ?_
      refine tw_aload_n 1 hO dX8_count_109 rfl rfl ?_
      obtain ⟨v110, e110, h⟩ := tw_bd h
      refine tw_getP hO dX8_count_110 (t := 8) rfl 0 (by decide) rfl tw_w595 rfl e110 ?_
      refine tw_iconst (v := 1) hO dX8_count_113 (by decide) ?_
      obtain ⟨v114, e114, h⟩ := tw_bd h
      refine tw_iald hO dX8_count_114 e114 ?_
      refine tw_imul hO dX8_count_115 ?_
      exact tw_iret hO dX8_count_116 h
    replace h := tw_ifn s3 h
    by_cases s4 : x1 = 4
    · replace h := tw_ifp s4 h
      refine tw_tableIn (off := 90) (tgt := 117) hO dX8_count_27 (by rw [s4]; decide) (by rw [s4]; decide) (by rw [s4]; rfl) (by decide) ?_
      refine tw_aload_n 1 hO dX8_count_117 rfl rfl ?_
      refine tw_iconst (v := 0) hO dX8_count_118 (by decide) ?_
      refine tw_iconst (v := 1) hO dX8_count_119 (by decide) ?_
      obtain ⟨v120, e120, h⟩ := tw_bd h
      refine tw_cVi hO (mX8_stepsOf l G e120) cfX8_stepsOf (t := 8) rfl (kX8_stepsOf e120) tw_w806 tw_w808 tw_w43 rfl rfl rfl rfl ⟨(Nat.le_of_ble_eq_true rfl), (Nat.le_of_ble_eq_true rfl)⟩ (Nat.le_of_ble_eq_true rfl) ⟨(Nat.le_of_ble_eq_true rfl), (Nat.le_of_ble_eq_true rfl)⟩ dX8_count_120 ?_
      refine tw_aload_n 1 hO dX8_count_123 rfl rfl ?_
      refine tw_iconst (v := 1) hO dX8_count_124 (by decide) ?_
      refine tw_iconst (v := 1) hO dX8_count_125 (by decide) ?_
      obtain ⟨v126, e126, h⟩ := tw_bd h
      refine tw_cVi hO (mX8_stepsOf l G e126) cfX8_stepsOf (t := 8) rfl (kX8_stepsOf e126) tw_w806 tw_w808 tw_w43 rfl rfl rfl rfl ⟨(Nat.le_of_ble_eq_true rfl), (Nat.le_of_ble_eq_true rfl)⟩ (Nat.le_of_ble_eq_true rfl) ⟨(Nat.le_of_ble_eq_true rfl), (Nat.le_of_ble_eq_true rfl)⟩ dX8_count_126 ?_
      refine tw_iadd hO dX8_count_129 ?_
      refine tw_aload_n 1 hO dX8_count_130 rfl rfl ?_
      obtain ⟨v131, e131, h⟩ := tw_bd h
      refine tw_getP hO dX8_count_131 (t := 8) rfl 0 (by decide) rfl tw_w595 rfl e131 ?_
      refine tw_iconst (v := 2) hO dX8_count_134 (by decide) ?_
      obtain ⟨v135, e135, h⟩ := tw_bd h
      refine tw_iald hO dX8_count_135 e135 ?_
      refine tw_imul hO dX8_count_136 ?_
      exact tw_iret hO dX8_count_137 h
    replace h := tw_ifn s4 h
    by_cases s5 : x1 = 5
    · replace h := tw_ifp s5 h
      refine tw_tableIn (off := 111) (tgt := 138) hO dX8_count_27 (by rw [s5]; decide) (by rw [s5]; decide) (by rw [s5]; rfl) (by decide) ?_
      refine tw_aload_n 1 hO dX8_count_138 rfl rfl ?_
      obtain ⟨v139, e139, h⟩ := tw_bd h
      refine tw_getI hO dX8_count_139 (t := 8) rfl 6 (by decide) rfl tw_w601 rfl e139 ?_
      exact tw_iret hO dX8_count_142 h
    replace h := tw_ifn s5 h
    refine tw_tableOut (tgt := 143) hO dX8_count_27 (by have n0 := lv_neT (a := 0) s0 rfl; have n1 := lv_neT (a := 1) s1 rfl; have n2 := lv_neT (a := 2) s2 rfl; have n3 := lv_neT (a := 3) s3 rfl; have n4 := lv_neT (a := 4) s4 rfl; have n5 := lv_neT (a := 5) s5 rfl; omega) (by decide) ?_
    refine tw_iload_n 2 hO dX8_count_143 rfl rfl ?_
    refine tw_bipush (v := 6) hO dX8_count_144 (by decide) ?_
    refine tw_icmp_ne (tgt := 156) hO dX8_count_146 (by decide) (fun cc => ?_) (fun cc => ?_)
    · replace h := tw_ifn cc h
      refine tw_bipush (v := (-2)) hO dX8_count_156 (by decide) ?_
      exact tw_iret hO dX8_count_158 h
    · replace h := tw_ifp cc h
      refine tw_aload_n 1 hO dX8_count_149 rfl rfl ?_
      obtain ⟨v150, e150, h⟩ := tw_bd h
      refine tw_getI hO dX8_count_150 (t := 8) rfl 2 (by decide) rfl tw_w597 rfl e150 ?_
      refine tw_goto (tgt := 158) hO dX8_count_153 (by decide) ?_
      exact tw_iret hO dX8_count_158 h
  · replace h := tw_ifn cc h
    refine tw_aload_n 0 hO dX8_count_11 rfl rfl ?_
    obtain ⟨v12, e12, h⟩ := tw_bd h
    refine tw_getP hO dX8_count_12 (t := 8) rfl 0 (by decide) rfl tw_w595 rfl e12 ?_
    refine tw_iload_n 1 hO dX8_count_15 rfl rfl ?_
    refine tw_bipush (v := 7) hO dX8_count_16 (by decide) ?_
    refine tw_isub hO dX8_count_18 ?_
    obtain ⟨v19, e19, h⟩ := tw_bd h
    refine tw_iald hO dX8_count_19 e19 ?_
    exact tw_iret hO dX8_count_20 h
theorem cfX8_alone : tw_CF yX8_alone cX8_alone 2 (some .int) 1 := ⟨tw_w829, tw_w56, by decide +kernel, by decide +kernel, by decide +kernel⟩
theorem kX8_alone {σ : tw_St} {a : Nat} {x1 : Int32} {q : Int32 × tw_St} (h : fX8_alone σ a x1 = some q) : tw_is σ 8 a = some () := by
  unfold fX8_alone at h
  obtain ⟨_, e1, -⟩ := tw_bd h
  exact e1
set_option maxRecDepth 100000 in
set_option maxHeartbeats 4000000 in
theorem mX8_alone (l : Launch) (G : tw_G) {σ : tw_St} {a : Nat} {x1 : Int32} {q : Int32 × tw_St} (h : fX8_alone σ a x1 = some q) : tw_M l G yX8_alone cX8_alone 2 (some .int) rmX8_alone 0 0 σ [.ref a, .int x1] (some (.int q.1)) q.2 := by
  unfold fX8_alone at h
  obtain ⟨_, -, h⟩ := tw_bd h
  refine tw_M.of (by decide +kernel) (Nat.le_of_ble_eq_true rfl) (fun p e s m args below meth c hnm hO => ?_)
  have hO : tw_O p s m args meth c cX8_alone RX8 2 (some .int) G := hO
  refine tw_iload_n 1 hO dX8_alone_0 rfl rfl ?_
  obtain ⟨v1, e1, h⟩ := tw_bd h
  refine tw_cSi hO (mX8_isThread l G e1) cfX8_isThread tw_w683 tw_w684 rfl rfl rfl rfl ⟨(Nat.le_of_ble_eq_true rfl), (Nat.le_of_ble_eq_true rfl)⟩ (Nat.le_of_ble_eq_true rfl) ⟨(Nat.le_of_ble_eq_true rfl), (Nat.le_of_ble_eq_true rfl)⟩ dX8_alone_1 ?_
  refine tw_if_eq (tgt := 23) hO dX8_alone_4 (by decide) (fun cc => ?_) (fun cc => ?_)
  · replace h := tw_ifp cc h
    refine tw_iconst (v := (-1)) hO dX8_alone_23 (by decide) ?_
    exact tw_iret hO dX8_alone_24 h
  · replace h := tw_ifn cc h
    refine tw_aload_n 0 hO dX8_alone_7 rfl rfl ?_
    refine tw_aload_n 0 hO dX8_alone_8 rfl rfl ?_
    obtain ⟨v9, e9, h⟩ := tw_bd h
    refine tw_getP hO dX8_alone_9 (t := 8) rfl 0 (by decide) rfl tw_w595 rfl e9 ?_
    refine tw_iconst (v := 0) hO dX8_alone_12 (by decide) ?_
    obtain ⟨v13, e13, h⟩ := tw_bd h
    refine tw_iald hO dX8_alone_13 e13 ?_
    refine tw_bipush (v := (-6)) hO dX8_alone_14 (by decide) ?_
    refine tw_iload_n 1 hO dX8_alone_16 rfl rfl ?_
    obtain ⟨q17, e17, h⟩ := tw_bd h
    refine tw_cVi hO (mX8_goThrough l G e17) cfX8_goThrough (t := 8) rfl (kX8_goThrough e17) tw_w751 tw_w753 tw_w32 rfl rfl rfl rfl ⟨(Nat.le_of_ble_eq_true rfl), (Nat.le_of_ble_eq_true rfl)⟩ (Nat.le_of_ble_eq_true rfl) ⟨(Nat.le_of_ble_eq_true rfl), (Nat.le_of_ble_eq_true rfl)⟩ dX8_alone_17 ?_
    refine tw_goto (tgt := 24) hO dX8_alone_20 (by decide) ?_
    exact tw_iret hO dX8_alone_24 h
theorem cfX8_lengthWith : tw_CF yX8_lengthWith cX8_lengthWith 2 (some .int) 1 := ⟨tw_w833, tw_w56, by decide +kernel, by decide +kernel, by decide +kernel⟩
theorem kX8_lengthWith {σ : tw_St} {a : Nat} {x1 : Int32} {q : Int32 × tw_St} (h : fX8_lengthWith σ a x1 = some q) : tw_is σ 8 a = some () := by
  unfold fX8_lengthWith at h
  obtain ⟨_, e1, -⟩ := tw_bd h
  exact e1
set_option maxRecDepth 100000 in
set_option maxHeartbeats 4000000 in
theorem mX8_lengthWith (l : Launch) (G : tw_G) {σ : tw_St} {a : Nat} {x1 : Int32} {q : Int32 × tw_St} (h : fX8_lengthWith σ a x1 = some q) : tw_M l G yX8_lengthWith cX8_lengthWith 2 (some .int) rmX8_lengthWith 0 0 σ [.ref a, .int x1] (some (.int q.1)) q.2 := by
  unfold fX8_lengthWith at h
  obtain ⟨_, -, h⟩ := tw_bd h
  refine tw_M.of (by decide +kernel) (Nat.le_of_ble_eq_true rfl) (fun p e s m args below meth c hnm hO => ?_)
  have hO : tw_O p s m args meth c cX8_lengthWith RX8 2 (some .int) G := hO
  refine tw_iload_n 1 hO dX8_lengthWith_0 rfl rfl ?_
  refine tw_iconst (v := 0) hO dX8_lengthWith_1 (by decide) ?_
  refine tw_iconst (v := 2) hO dX8_lengthWith_2 (by decide) ?_
  obtain ⟨v3, e3, h⟩ := tw_bd h
  refine tw_cSi hO (mX8_in l G e3) cfX8_in tw_w672 tw_w673 rfl rfl rfl rfl ⟨(Nat.le_of_ble_eq_true rfl), (Nat.le_of_ble_eq_true rfl)⟩ (Nat.le_of_ble_eq_true rfl) ⟨(Nat.le_of_ble_eq_true rfl), (Nat.le_of_ble_eq_true rfl)⟩ dX8_lengthWith_3 ?_
  refine tw_if_eq (tgt := 21) hO dX8_lengthWith_6 (by decide) (fun cc => ?_) (fun cc => ?_)
  · replace h := tw_ifp cc h
    refine tw_bipush (v := (-2)) hO dX8_lengthWith_21 (by decide) ?_
    exact tw_iret hO dX8_lengthWith_23 h
  · replace h := tw_ifn cc h
    refine tw_aload_n 0 hO dX8_lengthWith_9 rfl rfl ?_
    refine tw_iload_n 1 hO dX8_lengthWith_10 rfl rfl ?_
    refine tw_bipush (v := (-6)) hO dX8_lengthWith_11 (by decide) ?_
    refine tw_bipush (v := (-6)) hO dX8_lengthWith_13 (by decide) ?_
    obtain ⟨q15, e15, h⟩ := tw_bd h
    refine tw_cVi hO (mX8_goThrough l G e15) cfX8_goThrough (t := 8) rfl (kX8_goThrough e15) tw_w751 tw_w753 tw_w32 rfl rfl rfl rfl ⟨(Nat.le_of_ble_eq_true rfl), (Nat.le_of_ble_eq_true rfl)⟩ (Nat.le_of_ble_eq_true rfl) ⟨(Nat.le_of_ble_eq_true rfl), (Nat.le_of_ble_eq_true rfl)⟩ dX8_lengthWith_15 ?_
    refine tw_goto (tgt := 23) hO dX8_lengthWith_18 (by decide) ?_
    exact tw_iret hO dX8_lengthWith_23 h
theorem cfX8_bestTurns : tw_CF yX8_bestTurns cX8_bestTurns 5 (some .int) 0 := ⟨tw_w837, tw_w56, by decide +kernel, by decide +kernel, by decide +kernel⟩
theorem kX8_bestTurns {σ : tw_St} {a : Nat} {q : Int32 × tw_St} (h : fX8_bestTurns σ a = some q) : tw_is σ 8 a = some () := by
  unfold fX8_bestTurns at h
  obtain ⟨_, e1, -⟩ := tw_bd h
  exact e1
set_option maxRecDepth 100000 in
set_option maxHeartbeats 4000000 in
theorem wX8_bestTurns_b54 (hO : tw_O p s m args meth c cX8_bestTurns RX8 5 (some .int) G) {k14 : (tw_St → Nat → Int32 → Int32 → Int32 → Option (Int32 × tw_St))} (hk14 : ∀ (σ : tw_St) (a0 : Nat) (x1 : Int32) (x2 : Int32) (x3 : Int32) (q : Int32 × tw_St), k14 σ a0 x1 x2 x3 = some q → tw_X p l e rmX8_bestTurns s m args below meth c 5 G σ 0 0 (tw_Q below args s G 0 0 (some (.int q.1)) q.2) 14 [(0, .ref a0), (1, .int x1), (2, .int x2), (3, .int x3)] []) {σ : tw_St} {a0 : Nat} {x1 : Int32} {x3 : Int32} {z0 : Int32} {q : Int32 × tw_St} (h : fX8_bestTurns_b54 k14 σ a0 x1 x3 z0 = some q) : tw_X p l e rmX8_bestTurns s m args below meth c 5 G σ 0 0 (tw_Q below args s G 0 0 (some (.int q.1)) q.2) 54 [(0, .ref a0), (1, .int x1), (3, .int x3)] [.int z0] := by
  unfold fX8_bestTurns_b54 at h
  refine tw_istore_n (lv' := [(2, .int z0), (0, .ref a0), (1, .int x1), (3, .int x3)]) hO dX8_bestTurns_54 rfl (by decide) rfl ?_
  refine tw_iinc (q := 3) (v := (x3 + 1)) (lv' := [(3, .int (x3 + 1)), (2, .int z0), (0, .ref a0), (1, .int x1)]) hO dX8_bestTurns_55 rfl rfl (by decide) rfl ?_
  refine tw_goto (tgt := 14) hO dX8_bestTurns_58 (by decide) ?_
  refine tw_sub [2, 3, 1, 0] rfl ?_
  exact hk14 _ _ _ _ _ _ h
set_option maxRecDepth 100000 in
set_option maxHeartbeats 4000000 in
theorem wX8_bestTurns_b41 (hO : tw_O p s m args meth c cX8_bestTurns RX8 5 (some .int) G) {k14 : (tw_St → Nat → Int32 → Int32 → Int32 → Option (Int32 × tw_St))} (hk14 : ∀ (σ : tw_St) (a0 : Nat) (x1 : Int32) (x2 : Int32) (x3 : Int32) (q : Int32 × tw_St), k14 σ a0 x1 x2 x3 = some q → tw_X p l e rmX8_bestTurns s m args below meth c 5 G σ 0 0 (tw_Q below args s G 0 0 (some (.int q.1)) q.2) 14 [(0, .ref a0), (1, .int x1), (2, .int x2), (3, .int x3)] []) {σ : tw_St} {a0 : Nat} {x2 : Int32} {x3 : Int32} {x4 : Int32} {z0 : Int32} {q : Int32 × tw_St} (h : fX8_bestTurns_b41 k14 σ a0 x2 x3 x4 z0 = some q) : tw_X p l e rmX8_bestTurns s m args below meth c 5 G σ 0 0 (tw_Q below args s G 0 0 (some (.int q.1)) q.2) 41 [(0, .ref a0), (2, .int x2), (3, .int x3), (4, .int x4)] [.int z0] := by
  unfold fX8_bestTurns_b41 at h
  refine tw_istore_n (lv' := [(1, .int z0), (0, .ref a0), (2, .int x2), (3, .int x3), (4, .int x4)]) hO dX8_bestTurns_41 rfl (by decide) rfl ?_
  refine tw_iload 4 hO dX8_bestTurns_42 rfl ?_
  refine tw_iload_n 2 hO dX8_bestTurns_44 rfl rfl ?_
  refine tw_icmp_ge (tgt := 53) hO dX8_bestTurns_45 (by decide) (fun cc => ?_) (fun cc => ?_)
  · replace h := tw_ifp cc h
    refine tw_iload_n 2 hO dX8_bestTurns_53 rfl rfl ?_
    refine tw_sub [1, 0, 3] rfl ?_
    exact wX8_bestTurns_b54 hO hk14 h
  · replace h := tw_ifn cc h
    refine tw_iload 4 hO dX8_bestTurns_48 rfl ?_
    refine tw_goto (tgt := 54) hO dX8_bestTurns_50 (by decide) ?_
    refine tw_sub [1, 0, 3] rfl ?_
    exact wX8_bestTurns_b54 hO hk14 h
set_option maxRecDepth 100000 in
set_option maxHeartbeats 4000000 in
theorem wX8_bestTurns_h14 (hO : tw_O p s m args meth c cX8_bestTurns RX8 5 (some .int) G) {k14 : (tw_St → Nat → Int32 → Int32 → Int32 → Option (Int32 × tw_St))} (hk14 : ∀ (σ : tw_St) (a0 : Nat) (x1 : Int32) (x2 : Int32) (x3 : Int32) (q : Int32 × tw_St), k14 σ a0 x1 x2 x3 = some q → tw_X p l e rmX8_bestTurns s m args below meth c 5 G σ 0 0 (tw_Q below args s G 0 0 (some (.int q.1)) q.2) 14 [(0, .ref a0), (1, .int x1), (2, .int x2), (3, .int x3)] []) {σ : tw_St} {a0 : Nat} {x1 : Int32} {x2 : Int32} {x3 : Int32} {q : Int32 × tw_St} (h : fX8_bestTurns_h14 k14 σ a0 x1 x2 x3 = some q) : tw_X p l e rmX8_bestTurns s m args below meth c 5 G σ 0 0 (tw_Q below args s G 0 0 (some (.int q.1)) q.2) 14 [(0, .ref a0), (1, .int x1), (2, .int x2), (3, .int x3)] [] := by
  unfold fX8_bestTurns_h14 at h
  refine tw_iload_n 3 hO dX8_bestTurns_14 rfl rfl ?_
  refine tw_iconst (v := 3) hO dX8_bestTurns_15 (by decide) ?_
  refine tw_icmp_ge (tgt := 61) hO dX8_bestTurns_16 (by decide) (fun cc => ?_) (fun cc => ?_)
  · replace h := tw_ifp cc h
    refine tw_iload_n 1 hO dX8_bestTurns_61 rfl rfl ?_
    exact tw_iret hO dX8_bestTurns_62 h
  · replace h := tw_ifn cc h
    refine tw_aload_n 0 hO dX8_bestTurns_19 rfl rfl ?_
    refine tw_iload_n 3 hO dX8_bestTurns_20 rfl rfl ?_
    refine tw_bipush (v := (-6)) hO dX8_bestTurns_21 (by decide) ?_
    refine tw_bipush (v := (-6)) hO dX8_bestTurns_23 (by decide) ?_
    obtain ⟨q25, e25, h⟩ := tw_bd h
    refine tw_cVi hO (mX8_goThrough l G e25) cfX8_goThrough (t := 8) rfl (kX8_goThrough e25) tw_w751 tw_w753 tw_w32 rfl rfl rfl rfl ⟨(Nat.le_of_ble_eq_true rfl), (Nat.le_of_ble_eq_true rfl)⟩ (Nat.le_of_ble_eq_true rfl) ⟨(Nat.le_of_ble_eq_true rfl), (Nat.le_of_ble_eq_true rfl)⟩ dX8_bestTurns_25 ?_
    refine tw_istore (lv' := [(4, .int q25.1), (0, .ref a0), (1, .int x1), (2, .int x2), (3, .int x3)]) hO dX8_bestTurns_28 (by decide) rfl ?_
    refine tw_iload 0 hO dX8_bestTurns_30 rfl ?_
    refine tw_iload_n 3 hO dX8_bestTurns_32 rfl rfl ?_
    refine tw_icmp_ge (tgt := 40) hO dX8_bestTurns_33 (by decide) (fun cc => ?_) (fun cc => ?_)
    · replace h := tw_ifp cc h
      refine tw_iload_n 2 hO dX8_bestTurns_40 rfl rfl ?_
      refine tw_sub [1, 3, 4, 0] rfl ?_
      exact wX8_bestTurns_b41 hO hk14 h
    · replace h := tw_ifn cc h
      refine tw_iload_n 4 hO dX8_bestTurns_36 rfl rfl ?_
      refine tw_goto (tgt := 41) hO dX8_bestTurns_37 (by decide) ?_
      refine tw_sub [1, 3, 4, 0] rfl ?_
      exact wX8_bestTurns_b41 hO hk14 h
set_option maxRecDepth 100000 in
set_option maxHeartbeats 4000000 in
theorem wX8_bestTurns_l14 (hO : tw_O p s m args meth c cX8_bestTurns RX8 5 (some .int) G) : ∀ (n : Nat) (σ : tw_St) (a0 : Nat) (x1 : Int32) (x2 : Int32) (x3 : Int32) (q : Int32 × tw_St), fX8_bestTurns_l14 n σ a0 x1 x2 x3 = some q → tw_X p l e rmX8_bestTurns s m args below meth c 5 G σ 0 0 (tw_Q below args s G 0 0 (some (.int q.1)) q.2) 14 [(0, .ref a0), (1, .int x1), (2, .int x2), (3, .int x3)] [] := by
  intro n
  induction n with
  | zero => intro _ _ _ _ _ q h; cases (show (none : Option (Int32 × tw_St)) = some q from h)
  | succ n ih => intro _ _ _ _ _ q h; exact wX8_bestTurns_h14 hO ih h
set_option maxRecDepth 100000 in
set_option maxHeartbeats 4000000 in
theorem mX8_bestTurns (l : Launch) (G : tw_G) {σ : tw_St} {a : Nat} {q : Int32 × tw_St} (h : fX8_bestTurns σ a = some q) : tw_M l G yX8_bestTurns cX8_bestTurns 5 (some .int) rmX8_bestTurns 0 0 σ [.ref a] (some (.int q.1)) q.2 := by
  unfold fX8_bestTurns at h
  obtain ⟨_, -, h⟩ := tw_bd h
  refine tw_M.of (by decide +kernel) (Nat.le_of_ble_eq_true rfl) (fun p e s m args below meth c hnm hO => ?_)
  have hO : tw_O p s m args meth c cX8_bestTurns RX8 5 (some .int) G := hO
  refine tw_iconst (v := 0) hO dX8_bestTurns_0 (by decide) ?_
  refine tw_istore_n (lv' := [(1, .int 0), (0, .ref a)]) hO dX8_bestTurns_1 rfl (by decide) rfl ?_
  refine tw_aload_n 1 hO dX8_bestTurns_2 rfl rfl ?_
  refine tw_iconst (v := 0) hO dX8_bestTurns_3 (by decide) ?_
  refine tw_bipush (v := (-6)) hO dX8_bestTurns_4 (by decide) ?_
  refine tw_bipush (v := (-6)) hO dX8_bestTurns_6 (by decide) ?_
  obtain ⟨q8, e8, h⟩ := tw_bd h
  refine tw_cVi hO (mX8_goThrough l G e8) cfX8_goThrough (t := 8) rfl (kX8_goThrough e8) tw_w751 tw_w753 tw_w32 rfl rfl rfl rfl ⟨(Nat.le_of_ble_eq_true rfl), (Nat.le_of_ble_eq_true rfl)⟩ (Nat.le_of_ble_eq_true rfl) ⟨(Nat.le_of_ble_eq_true rfl), (Nat.le_of_ble_eq_true rfl)⟩ dX8_bestTurns_8 ?_
  refine tw_istore_n (lv' := [(2, .int q8.1), (1, .int 0), (0, .ref a)]) hO dX8_bestTurns_11 rfl (by decide) rfl ?_
  refine tw_iconst (v := 1) hO dX8_bestTurns_12 (by decide) ?_
  refine tw_istore_n (lv' := [(3, .int 1), (2, .int q8.1), (1, .int 0), (0, .ref a)]) hO dX8_bestTurns_13 rfl (by decide) rfl ?_
  refine tw_sub [3, 2, 1, 0] rfl ?_
  exact wX8_bestTurns_l14 hO _ _ _ _ _ _ _ h
theorem cfX8_lengthWithout : tw_CF yX8_lengthWithout cX8_lengthWithout 2 (some .int) 1 := ⟨tw_w841, tw_w56, by decide +kernel, by decide +kernel, by decide +kernel⟩
theorem kX8_lengthWithout {σ : tw_St} {a : Nat} {x1 : Int32} {q : Int32 × tw_St} (h : fX8_lengthWithout σ a x1 = some q) : tw_is σ 8 a = some () := by
  unfold fX8_lengthWithout at h
  obtain ⟨_, e1, -⟩ := tw_bd h
  exact e1
set_option maxRecDepth 100000 in
set_option maxHeartbeats 4000000 in
theorem mX8_lengthWithout (l : Launch) (G : tw_G) {σ : tw_St} {a : Nat} {x1 : Int32} {q : Int32 × tw_St} (h : fX8_lengthWithout σ a x1 = some q) : tw_M l G yX8_lengthWithout cX8_lengthWithout 2 (some .int) rmX8_lengthWithout 0 0 σ [.ref a, .int x1] (some (.int q.1)) q.2 := by
  unfold fX8_lengthWithout at h
  obtain ⟨_, -, h⟩ := tw_bd h
  refine tw_M.of (by decide +kernel) (Nat.le_of_ble_eq_true rfl) (fun p e s m args below meth c hnm hO => ?_)
  have hO : tw_O p s m args meth c cX8_lengthWithout RX8 2 (some .int) G := hO
  refine tw_iload_n 1 hO dX8_lengthWithout_0 rfl rfl ?_
  refine tw_iconst (v := 0) hO dX8_lengthWithout_1 (by decide) ?_
  refine tw_iconst (v := 1) hO dX8_lengthWithout_2 (by decide) ?_
  obtain ⟨v3, e3, h⟩ := tw_bd h
  refine tw_cSi hO (mX8_in l G e3) cfX8_in tw_w672 tw_w673 rfl rfl rfl rfl ⟨(Nat.le_of_ble_eq_true rfl), (Nat.le_of_ble_eq_true rfl)⟩ (Nat.le_of_ble_eq_true rfl) ⟨(Nat.le_of_ble_eq_true rfl), (Nat.le_of_ble_eq_true rfl)⟩ dX8_lengthWithout_3 ?_
  refine tw_if_eq (tgt := 25) hO dX8_lengthWithout_6 (by decide) (fun cc => ?_) (fun cc => ?_)
  · replace h := tw_ifp cc h
    refine tw_bipush (v := (-2)) hO dX8_lengthWithout_25 (by decide) ?_
    exact tw_iret hO dX8_lengthWithout_27 h
  · replace h := tw_ifn cc h
    refine tw_aload_n 0 hO dX8_lengthWithout_9 rfl rfl ?_
    refine tw_aload_n 0 hO dX8_lengthWithout_10 rfl rfl ?_
    obtain ⟨v11, e11, h⟩ := tw_bd h
    refine tw_getP hO dX8_lengthWithout_11 (t := 8) rfl 0 (by decide) rfl tw_w595 rfl e11 ?_
    refine tw_iconst (v := 0) hO dX8_lengthWithout_14 (by decide) ?_
    obtain ⟨v15, e15, h⟩ := tw_bd h
    refine tw_iald hO dX8_lengthWithout_15 e15 ?_
    refine tw_iload_n 1 hO dX8_lengthWithout_16 rfl rfl ?_
    refine tw_bipush (v := (-6)) hO dX8_lengthWithout_17 (by decide) ?_
    obtain ⟨q19, e19, h⟩ := tw_bd h
    refine tw_cVi hO (mX8_goThrough l G e19) cfX8_goThrough (t := 8) rfl (kX8_goThrough e19) tw_w751 tw_w753 tw_w32 rfl rfl rfl rfl ⟨(Nat.le_of_ble_eq_true rfl), (Nat.le_of_ble_eq_true rfl)⟩ (Nat.le_of_ble_eq_true rfl) ⟨(Nat.le_of_ble_eq_true rfl), (Nat.le_of_ble_eq_true rfl)⟩ dX8_lengthWithout_19 ?_
    refine tw_goto (tgt := 27) hO dX8_lengthWithout_22 (by decide) ?_
    exact tw_iret hO dX8_lengthWithout_27 h
theorem cfX8_isFixed : tw_CF yX8_isFixed cX8_isFixed 5 (some .boolean) 2 := ⟨tw_w849, tw_w56, by decide +kernel, by decide +kernel, by decide +kernel⟩
theorem kX8_isFixed {σ : tw_St} {a : Nat} {x1 : Int32} {x2 : Int32} {q : Int32} (h : fX8_isFixed σ a x1 x2 = some q) : tw_is σ 8 a = some () := by
  unfold fX8_isFixed at h
  obtain ⟨_, e1, -⟩ := tw_bd h
  exact e1
set_option maxRecDepth 100000 in
set_option maxHeartbeats 4000000 in
theorem wX8_isFixed_b65 (hO : tw_O p s m args meth c cX8_isFixed RX8 5 (some .boolean) G) {k21 : (tw_St → Nat → Int32 → Int32 → Int32 → Int32 → Option (Int32))} (hk21 : ∀ (σ : tw_St) (a0 : Nat) (x1 : Int32) (x2 : Int32) (x3 : Int32) (x4 : Int32) (q : Int32), k21 σ a0 x1 x2 x3 x4 = some q → tw_X p l e rmX8_isFixed s m args below meth c 5 G σ 0 0 (tw_Q below args s G 0 0 (some (.int q)) σ) 21 [(0, .ref a0), (1, .int x1), (2, .int x2), (3, .int x3), (4, .int x4)] []) {σ : tw_St} {a0 : Nat} {x1 : Int32} {x2 : Int32} {x4 : Int32} {z0 : Int32} {q : Int32} (h : fX8_isFixed_b65 k21 σ a0 x1 x2 x4 z0 = some q) : tw_X p l e rmX8_isFixed s m args below meth c 5 G σ 0 0 (tw_Q below args s G 0 0 (some (.int q)) σ) 65 [(0, .ref a0), (1, .int x1), (2, .int x2), (4, .int x4)] [.int z0] := by
  unfold fX8_isFixed_b65 at h
  refine tw_istore_n (lv' := [(3, .int z0), (0, .ref a0), (1, .int x1), (2, .int x2), (4, .int x4)]) hO dX8_isFixed_65 rfl (by decide) rfl ?_
  refine tw_iinc (q := 4) (v := (x4 + 1)) (lv' := [(4, .int (x4 + 1)), (3, .int z0), (0, .ref a0), (1, .int x1), (2, .int x2)]) hO dX8_isFixed_66 rfl rfl (by decide) rfl ?_
  refine tw_goto (tgt := 21) hO dX8_isFixed_69 (by decide) ?_
  refine tw_sub [2, 3, 4, 1, 0] rfl ?_
  exact hk21 _ _ _ _ _ _ _ h
set_option maxRecDepth 100000 in
set_option maxHeartbeats 4000000 in
theorem wX8_isFixed_b60 (hO : tw_O p s m args meth c cX8_isFixed RX8 5 (some .boolean) G) {k21 : (tw_St → Nat → Int32 → Int32 → Int32 → Int32 → Option (Int32))} (hk21 : ∀ (σ : tw_St) (a0 : Nat) (x1 : Int32) (x2 : Int32) (x3 : Int32) (x4 : Int32) (q : Int32), k21 σ a0 x1 x2 x3 x4 = some q → tw_X p l e rmX8_isFixed s m args below meth c 5 G σ 0 0 (tw_Q below args s G 0 0 (some (.int q)) σ) 21 [(0, .ref a0), (1, .int x1), (2, .int x2), (3, .int x3), (4, .int x4)] []) {σ : tw_St} {a0 : Nat} {x1 : Int32} {x2 : Int32} {x4 : Int32} {q : Int32} (h : fX8_isFixed_b60 k21 σ a0 x1 x2 x4 = some q) : tw_X p l e rmX8_isFixed s m args below meth c 5 G σ 0 0 (tw_Q below args s G 0 0 (some (.int q)) σ) 60 [(0, .ref a0), (1, .int x1), (2, .int x2), (4, .int x4)] [] := by
  unfold fX8_isFixed_b60 at h
  refine tw_iconst (v := 1) hO dX8_isFixed_60 (by decide) ?_
  refine tw_goto (tgt := 65) hO dX8_isFixed_61 (by decide) ?_
  exact wX8_isFixed_b65 hO hk21 h
set_option maxRecDepth 100000 in
set_option maxHeartbeats 4000000 in
theorem wX8_isFixed_b64 (hO : tw_O p s m args meth c cX8_isFixed RX8 5 (some .boolean) G) {k21 : (tw_St → Nat → Int32 → Int32 → Int32 → Int32 → Option (Int32))} (hk21 : ∀ (σ : tw_St) (a0 : Nat) (x1 : Int32) (x2 : Int32) (x3 : Int32) (x4 : Int32) (q : Int32), k21 σ a0 x1 x2 x3 x4 = some q → tw_X p l e rmX8_isFixed s m args below meth c 5 G σ 0 0 (tw_Q below args s G 0 0 (some (.int q)) σ) 21 [(0, .ref a0), (1, .int x1), (2, .int x2), (3, .int x3), (4, .int x4)] []) {σ : tw_St} {a0 : Nat} {x1 : Int32} {x2 : Int32} {x4 : Int32} {q : Int32} (h : fX8_isFixed_b64 k21 σ a0 x1 x2 x4 = some q) : tw_X p l e rmX8_isFixed s m args below meth c 5 G σ 0 0 (tw_Q below args s G 0 0 (some (.int q)) σ) 64 [(0, .ref a0), (1, .int x1), (2, .int x2), (4, .int x4)] [] := by
  unfold fX8_isFixed_b64 at h
  refine tw_iconst (v := 0) hO dX8_isFixed_64 (by decide) ?_
  exact wX8_isFixed_b65 hO hk21 h
set_option maxRecDepth 100000 in
set_option maxHeartbeats 4000000 in
theorem wX8_isFixed_h21 (hO : tw_O p s m args meth c cX8_isFixed RX8 5 (some .boolean) G) {k21 : (tw_St → Nat → Int32 → Int32 → Int32 → Int32 → Option (Int32))} (hk21 : ∀ (σ : tw_St) (a0 : Nat) (x1 : Int32) (x2 : Int32) (x3 : Int32) (x4 : Int32) (q : Int32), k21 σ a0 x1 x2 x3 x4 = some q → tw_X p l e rmX8_isFixed s m args below meth c 5 G σ 0 0 (tw_Q below args s G 0 0 (some (.int q)) σ) 21 [(0, .ref a0), (1, .int x1), (2, .int x2), (3, .int x3), (4, .int x4)] []) {σ : tw_St} {a0 : Nat} {x1 : Int32} {x2 : Int32} {x3 : Int32} {x4 : Int32} {q : Int32} (h : fX8_isFixed_h21 k21 σ a0 x1 x2 x3 x4 = some q) : tw_X p l e rmX8_isFixed s m args below meth c 5 G σ 0 0 (tw_Q below args s G 0 0 (some (.int q)) σ) 21 [(0, .ref a0), (1, .int x1), (2, .int x2), (3, .int x3), (4, .int x4)] [] := by
  unfold fX8_isFixed_h21 at h
  refine tw_iload 4 hO dX8_isFixed_21 rfl ?_
  refine tw_aload_n 0 hO dX8_isFixed_23 rfl rfl ?_
  refine tw_iload_n 1 hO dX8_isFixed_24 rfl rfl ?_
  obtain ⟨v25, e25, h⟩ := tw_bd h
  refine tw_cVi hO (mX8_many l G e25) cfX8_many (t := 8) rfl (kX8_many e25) tw_w739 tw_w741 tw_w30 rfl rfl rfl rfl ⟨(Nat.le_of_ble_eq_true rfl), (Nat.le_of_ble_eq_true rfl)⟩ (Nat.le_of_ble_eq_true rfl) ⟨(Nat.le_of_ble_eq_true rfl), (Nat.le_of_ble_eq_true rfl)⟩ dX8_isFixed_25 ?_
  refine tw_icmp_ge (tgt := 72) hO dX8_isFixed_28 (by decide) (fun cc => ?_) (fun cc => ?_)
  · replace h := tw_ifp cc h
    refine tw_iload_n 3 hO dX8_isFixed_72 rfl rfl ?_
    obtain ⟨_, hz, h⟩ := tw_bd h
    exact tw_zretR hO (tw_bz_sp hz).2.1 dX8_isFixed_73 h
  · replace h := tw_ifn cc h
    refine tw_iload_n 3 hO dX8_isFixed_31 rfl rfl ?_
    refine tw_if_ne (tgt := 60) hO dX8_isFixed_32 (by decide) (fun cc => ?_) (fun cc => ?_)
    · replace h := tw_ifn cc h
      refine tw_sub [0, 1, 2, 4] rfl ?_
      exact wX8_isFixed_b60 hO hk21 h
    · replace h := tw_ifp cc h
      refine tw_aload_n 0 hO dX8_isFixed_35 rfl rfl ?_
      refine tw_iload_n 1 hO dX8_isFixed_36 rfl rfl ?_
      refine tw_iload 4 hO dX8_isFixed_37 rfl ?_
      refine tw_iconst (v := 0) hO dX8_isFixed_39 (by decide) ?_
      obtain ⟨v40, e40, h⟩ := tw_bd h
      refine tw_cVi hO (mX8_of l G e40) cfX8_of (t := 8) rfl (kX8_of e40) tw_w767 tw_w769 tw_w36 rfl rfl rfl rfl ⟨(Nat.le_of_ble_eq_true rfl), (Nat.le_of_ble_eq_true rfl)⟩ (Nat.le_of_ble_eq_true rfl) ⟨(Nat.le_of_ble_eq_true rfl), (Nat.le_of_ble_eq_true rfl)⟩ dX8_isFixed_40 ?_
      refine tw_bipush (v := 6) hO dX8_isFixed_43 (by decide) ?_
      refine tw_icmp_ne (tgt := 64) hO dX8_isFixed_45 (by decide) (fun cc => ?_) (fun cc => ?_)
      · replace h := tw_ifn cc h
        refine tw_sub [0, 1, 2, 4] rfl ?_
        exact wX8_isFixed_b64 hO hk21 h
      · replace h := tw_ifp cc h
        refine tw_aload_n 0 hO dX8_isFixed_48 rfl rfl ?_
        refine tw_iload_n 1 hO dX8_isFixed_49 rfl rfl ?_
        refine tw_iload 4 hO dX8_isFixed_50 rfl ?_
        refine tw_iconst (v := 4) hO dX8_isFixed_52 (by decide) ?_
        obtain ⟨v53, e53, h⟩ := tw_bd h
        refine tw_cVi hO (mX8_of l G e53) cfX8_of (t := 8) rfl (kX8_of e53) tw_w767 tw_w769 tw_w36 rfl rfl rfl rfl ⟨(Nat.le_of_ble_eq_true rfl), (Nat.le_of_ble_eq_true rfl)⟩ (Nat.le_of_ble_eq_true rfl) ⟨(Nat.le_of_ble_eq_true rfl), (Nat.le_of_ble_eq_true rfl)⟩ dX8_isFixed_53 ?_
        refine tw_iload_n 2 hO dX8_isFixed_56 rfl rfl ?_
        refine tw_icmp_ne (tgt := 64) hO dX8_isFixed_57 (by decide) (fun cc => ?_) (fun cc => ?_)
        · replace h := tw_ifn cc h
          refine tw_sub [0, 1, 2, 4] rfl ?_
          exact wX8_isFixed_b64 hO hk21 h
        · replace h := tw_ifp cc h
          refine tw_sub [0, 1, 2, 4] rfl ?_
          exact wX8_isFixed_b60 hO hk21 h
set_option maxRecDepth 100000 in
set_option maxHeartbeats 4000000 in
theorem wX8_isFixed_l21 (hO : tw_O p s m args meth c cX8_isFixed RX8 5 (some .boolean) G) : ∀ (n : Nat) (σ : tw_St) (a0 : Nat) (x1 : Int32) (x2 : Int32) (x3 : Int32) (x4 : Int32) (q : Int32), fX8_isFixed_l21 n σ a0 x1 x2 x3 x4 = some q → tw_X p l e rmX8_isFixed s m args below meth c 5 G σ 0 0 (tw_Q below args s G 0 0 (some (.int q)) σ) 21 [(0, .ref a0), (1, .int x1), (2, .int x2), (3, .int x3), (4, .int x4)] [] := by
  intro n
  induction n with
  | zero => intro _ _ _ _ _ _ q h; cases (show (none : Option (Int32)) = some q from h)
  | succ n ih => intro _ _ _ _ _ _ q h; exact wX8_isFixed_h21 hO ih h
set_option maxRecDepth 100000 in
set_option maxHeartbeats 4000000 in
theorem wX8_isFixed_b17 (hO : tw_O p s m args meth c cX8_isFixed RX8 5 (some .boolean) G) {σ : tw_St} {a0 : Nat} {x1 : Int32} {x2 : Int32} {z0 : Int32} {q : Int32} (h : fX8_isFixed_b17 σ a0 x1 x2 z0 = some q) : tw_X p l e rmX8_isFixed s m args below meth c 5 G σ 0 0 (tw_Q below args s G 0 0 (some (.int q)) σ) 17 [(0, .ref a0), (1, .int x1), (2, .int x2)] [.int z0] := by
  unfold fX8_isFixed_b17 at h
  refine tw_istore_n (lv' := [(3, .int z0), (0, .ref a0), (1, .int x1), (2, .int x2)]) hO dX8_isFixed_17 rfl (by decide) rfl ?_
  refine tw_iconst (v := 0) hO dX8_isFixed_18 (by decide) ?_
  refine tw_istore (lv' := [(4, .int 0), (3, .int z0), (0, .ref a0), (1, .int x1), (2, .int x2)]) hO dX8_isFixed_19 (by decide) rfl ?_
  refine tw_sub [2, 3, 4, 1, 0] rfl ?_
  exact wX8_isFixed_l21 hO _ _ _ _ _ _ _ _ h
set_option maxRecDepth 100000 in
set_option maxHeartbeats 4000000 in
theorem mX8_isFixed (l : Launch) (G : tw_G) {σ : tw_St} {a : Nat} {x1 : Int32} {x2 : Int32} {q : Int32} (h : fX8_isFixed σ a x1 x2 = some q) : tw_M l G yX8_isFixed cX8_isFixed 5 (some .boolean) rmX8_isFixed 0 0 σ [.ref a, .int x1, .int x2] (some (.int q)) σ := by
  unfold fX8_isFixed at h
  obtain ⟨_, -, h⟩ := tw_bd h
  refine tw_M.of (by decide +kernel) (Nat.le_of_ble_eq_true rfl) (fun p e s m args below meth c hnm hO => ?_)
  have hO : tw_O p s m args meth c cX8_isFixed RX8 5 (some .boolean) G := hO
  refine tw_aload_n 0 hO dX8_isFixed_0 rfl rfl ?_
  refine tw_iload_n 1 hO dX8_isFixed_1 rfl rfl ?_
  refine tw_iload_n 2 hO dX8_isFixed_2 rfl rfl ?_
  refine tw_iconst (v := 0) hO dX8_isFixed_3 (by decide) ?_
  obtain ⟨v4, e4, h⟩ := tw_bd h
  refine tw_cVi hO (mX8_of l G e4) cfX8_of (t := 8) rfl (kX8_of e4) tw_w767 tw_w769 tw_w36 rfl rfl rfl rfl ⟨(Nat.le_of_ble_eq_true rfl), (Nat.le_of_ble_eq_true rfl)⟩ (Nat.le_of_ble_eq_true rfl) ⟨(Nat.le_of_ble_eq_true rfl), (Nat.le_of_ble_eq_true rfl)⟩ dX8_isFixed_4 ?_
  refine tw_bipush (v := 6) hO dX8_isFixed_7 (by decide) ?_
  refine tw_icmp_ne (tgt := 16) hO dX8_isFixed_9 (by decide) (fun cc => ?_) (fun cc => ?_)
  · replace h := tw_ifn cc h
    refine tw_iconst (v := 0) hO dX8_isFixed_16 (by decide) ?_
    exact wX8_isFixed_b17 hO h
  · replace h := tw_ifp cc h
    refine tw_iconst (v := 1) hO dX8_isFixed_12 (by decide) ?_
    refine tw_goto (tgt := 17) hO dX8_isFixed_13 (by decide) ?_
    exact wX8_isFixed_b17 hO h
theorem cfX8_swap : tw_CF yX8_swap cX8_swap 6 none 2 := ⟨tw_w853, tw_w56, by decide +kernel, by decide +kernel, by decide +kernel⟩
theorem kX8_swap {σ : tw_St} {a : Nat} {x1 : Int32} {x2 : Int32} {q : tw_St} (h : fX8_swap σ a x1 x2 = some q) : tw_is σ 8 a = some () := by
  unfold fX8_swap at h
  obtain ⟨_, e1, -⟩ := tw_bd h
  exact e1
set_option maxRecDepth 100000 in
set_option maxHeartbeats 4000000 in
theorem wX8_swap_h17 (hO : tw_O p s m args meth c cX8_swap RX8 6 none G) {k17 : (tw_St → Nat → Int32 → Int32 → Option (tw_St))} (hk17 : ∀ (σ : tw_St) (a0 : Nat) (x3 : Int32) (x4 : Int32) (q : tw_St), k17 σ a0 x3 x4 = some q → tw_X p l e rmX8_swap s m args below meth c 6 G σ 0 0 (tw_Q below args s G 0 0 none q) 17 [(0, .ref a0), (3, .int x3), (4, .int x4)] []) {σ : tw_St} {a0 : Nat} {x3 : Int32} {x4 : Int32} {q : tw_St} (h : fX8_swap_h17 k17 σ a0 x3 x4 = some q) : tw_X p l e rmX8_swap s m args below meth c 6 G σ 0 0 (tw_Q below args s G 0 0 none q) 17 [(0, .ref a0), (3, .int x3), (4, .int x4)] [] := by
  unfold fX8_swap_h17 at h
  refine tw_iload 2 hO dX8_swap_17 rfl ?_
  refine tw_iload_n 1 hO dX8_swap_19 rfl rfl ?_
  refine tw_iconst (v := 5) hO dX8_swap_20 (by decide) ?_
  refine tw_iadd hO dX8_swap_21 ?_
  refine tw_icmp_ge (tgt := 67) hO dX8_swap_22 (by decide) (fun cc => ?_) (fun cc => ?_)
  · replace h := tw_ifp cc h
    exact tw_vret hO dX8_swap_67 h
  · replace h := tw_ifn cc h
    refine tw_aload_n 0 hO dX8_swap_25 rfl rfl ?_
    obtain ⟨v26, e26, h⟩ := tw_bd h
    refine tw_getP hO dX8_swap_26 (t := 8) rfl 0 (by decide) rfl tw_w595 rfl e26 ?_
    refine tw_iload 2 hO dX8_swap_29 rfl ?_
    obtain ⟨v31, e31, h⟩ := tw_bd h
    refine tw_iald hO dX8_swap_31 e31 ?_
    refine tw_istore (lv' := [(5, .int v31), (0, .ref a0), (3, .int x3), (4, .int x4)]) hO dX8_swap_32 (by decide) rfl ?_
    refine tw_aload_n 1 hO dX8_swap_34 rfl rfl ?_
    obtain ⟨v35, e35, h⟩ := tw_bd h
    refine tw_getP hO dX8_swap_35 (t := 8) rfl 0 (by decide) rfl tw_w595 rfl e35 ?_
    refine tw_iload 3 hO dX8_swap_38 rfl ?_
    refine tw_aload_n 1 hO dX8_swap_40 rfl rfl ?_
    obtain ⟨v41, e41, h⟩ := tw_bd h
    refine tw_getP hO dX8_swap_41 (t := 8) rfl 0 (by decide) rfl tw_w595 rfl e41 ?_
    refine tw_iload 3 hO dX8_swap_44 rfl ?_
    refine tw_iconst (v := 5) hO dX8_swap_46 (by decide) ?_
    refine tw_iadd hO dX8_swap_47 ?_
    obtain ⟨v48, e48, h⟩ := tw_bd h
    refine tw_iald hO dX8_swap_48 e48 ?_
    obtain ⟨σ49, e49, h⟩ := tw_bd h
    refine tw_iast hO dX8_swap_49 e49 ?_
    refine tw_aload_n 1 hO dX8_swap_50 rfl rfl ?_
    obtain ⟨v51, e51, h⟩ := tw_bd h
    refine tw_getP hO dX8_swap_51 (t := 8) rfl 0 (by decide) rfl tw_w595 rfl e51 ?_
    refine tw_iload 3 hO dX8_swap_54 rfl ?_
    refine tw_iconst (v := 5) hO dX8_swap_56 (by decide) ?_
    refine tw_iadd hO dX8_swap_57 ?_
    refine tw_iload 0 hO dX8_swap_58 rfl ?_
    obtain ⟨σ60, e60, h⟩ := tw_bd h
    refine tw_iast hO dX8_swap_60 e60 ?_
    refine tw_iinc (q := 3) (v := (x4 + 1)) (lv' := [(4, .int (x4 + 1)), (5, .int v31), (0, .ref a0), (3, .int x3)]) hO dX8_swap_61 rfl rfl (by decide) rfl ?_
    refine tw_goto (tgt := 17) hO dX8_swap_64 (by decide) ?_
    refine tw_sub [2, 3, 0] rfl ?_
    exact hk17 _ _ _ _ _ h
set_option maxRecDepth 100000 in
set_option maxHeartbeats 4000000 in
theorem wX8_swap_l17 (hO : tw_O p s m args meth c cX8_swap RX8 6 none G) : ∀ (n : Nat) (σ : tw_St) (a0 : Nat) (x3 : Int32) (x4 : Int32) (q : tw_St), fX8_swap_l17 n σ a0 x3 x4 = some q → tw_X p l e rmX8_swap s m args below meth c 6 G σ 0 0 (tw_Q below args s G 0 0 none q) 17 [(0, .ref a0), (3, .int x3), (4, .int x4)] [] := by
  intro n
  induction n with
  | zero => intro _ _ _ _ q h; cases (show (none : Option (tw_St)) = some q from h)
  | succ n ih => intro _ _ _ _ q h; exact wX8_swap_h17 hO ih h
set_option maxRecDepth 100000 in
set_option maxHeartbeats 4000000 in
theorem mX8_swap (l : Launch) (G : tw_G) {σ : tw_St} {a : Nat} {x1 : Int32} {x2 : Int32} {q : tw_St} (h : fX8_swap σ a x1 x2 = some q) : tw_M l G yX8_swap cX8_swap 6 none rmX8_swap 0 0 σ [.ref a, .int x1, .int x2] none q := by
  unfold fX8_swap at h
  obtain ⟨_, -, h⟩ := tw_bd h
  refine tw_M.of (by decide +kernel) (Nat.le_of_ble_eq_true rfl) (fun p e s m args below meth c hnm hO => ?_)
  have hO : tw_O p s m args meth c cX8_swap RX8 6 none G := hO
  refine tw_bipush (v := 10) hO dX8_swap_0 (by decide) ?_
  refine tw_bipush (v := 100) hO dX8_swap_2 (by decide) ?_
  refine tw_iload_n 1 hO dX8_swap_4 rfl rfl ?_
  refine tw_imul hO dX8_swap_5 ?_
  refine tw_iadd hO dX8_swap_6 ?_
  refine tw_iconst (v := 1) hO dX8_swap_7 (by decide) ?_
  refine tw_iadd hO dX8_swap_8 ?_
  refine tw_iconst (v := 5) hO dX8_swap_9 (by decide) ?_
  refine tw_iload_n 2 hO dX8_swap_10 rfl rfl ?_
  refine tw_imul hO dX8_swap_11 ?_
  refine tw_iadd hO dX8_swap_12 ?_
  refine tw_istore_n (lv' := [(3, .int (((10 + (100 * x1)) + 1) + (5 * x2))), (0, .ref a), (1, .int x1), (2, .int x2)]) hO dX8_swap_13 rfl (by decide) rfl ?_
  refine tw_iload_n 0 hO dX8_swap_14 rfl rfl ?_
  refine tw_istore (lv' := [(4, .int (((10 + (100 * x1)) + 1) + (5 * x2))), (3, .int (((10 + (100 * x1)) + 1) + (5 * x2))), (0, .ref a), (1, .int x1), (2, .int x2)]) hO dX8_swap_15 (by decide) rfl ?_
  refine tw_sub [2, 1, 0] rfl ?_
  exact wX8_swap_l17 hO _ _ _ _ _ _ h
theorem cfX8_areValuesSame : tw_CF yX8_areValuesSame cX8_areValuesSame 3 (some .boolean) 0 := ⟨tw_w857, tw_w56, by decide +kernel, by decide +kernel, by decide +kernel⟩
theorem kX8_areValuesSame {σ : tw_St} {a : Nat} {q : Int32} (h : fX8_areValuesSame σ a = some q) : tw_is σ 8 a = some () := by
  unfold fX8_areValuesSame at h
  obtain ⟨_, e1, -⟩ := tw_bd h
  exact e1
set_option maxRecDepth 100000 in
set_option maxHeartbeats 4000000 in
theorem wX8_areValuesSame_b34 (hO : tw_O p s m args meth c cX8_areValuesSame RX8 3 (some .boolean) G) {k4 : (tw_St → Nat → Int32 → Int32 → Option (Int32))} (hk4 : ∀ (σ : tw_St) (a0 : Nat) (x1 : Int32) (x2 : Int32) (q : Int32), k4 σ a0 x1 x2 = some q → tw_X p l e rmX8_areValuesSame s m args below meth c 3 G σ 0 0 (tw_Q below args s G 0 0 (some (.int q)) σ) 4 [(0, .ref a0), (1, .int x1), (2, .int x2)] []) {σ : tw_St} {a0 : Nat} {x2 : Int32} {z0 : Int32} {q : Int32} (h : fX8_areValuesSame_b34 k4 σ a0 x2 z0 = some q) : tw_X p l e rmX8_areValuesSame s m args below meth c 3 G σ 0 0 (tw_Q below args s G 0 0 (some (.int q)) σ) 34 [(0, .ref a0), (2, .int x2)] [.int z0] := by
  unfold fX8_areValuesSame_b34 at h
  refine tw_istore_n (lv' := [(1, .int z0), (0, .ref a0), (2, .int x2)]) hO dX8_areValuesSame_34 rfl (by decide) rfl ?_
  refine tw_iinc (q := 2) (v := (x2 + 1)) (lv' := [(2, .int (x2 + 1)), (1, .int z0), (0, .ref a0)]) hO dX8_areValuesSame_35 rfl rfl (by decide) rfl ?_
  refine tw_goto (tgt := 4) hO dX8_areValuesSame_38 (by decide) ?_
  refine tw_sub [2, 1, 0] rfl ?_
  exact hk4 _ _ _ _ _ h
set_option maxRecDepth 100000 in
set_option maxHeartbeats 4000000 in
theorem wX8_areValuesSame_b33 (hO : tw_O p s m args meth c cX8_areValuesSame RX8 3 (some .boolean) G) {k4 : (tw_St → Nat → Int32 → Int32 → Option (Int32))} (hk4 : ∀ (σ : tw_St) (a0 : Nat) (x1 : Int32) (x2 : Int32) (q : Int32), k4 σ a0 x1 x2 = some q → tw_X p l e rmX8_areValuesSame s m args below meth c 3 G σ 0 0 (tw_Q below args s G 0 0 (some (.int q)) σ) 4 [(0, .ref a0), (1, .int x1), (2, .int x2)] []) {σ : tw_St} {a0 : Nat} {x2 : Int32} {q : Int32} (h : fX8_areValuesSame_b33 k4 σ a0 x2 = some q) : tw_X p l e rmX8_areValuesSame s m args below meth c 3 G σ 0 0 (tw_Q below args s G 0 0 (some (.int q)) σ) 33 [(0, .ref a0), (2, .int x2)] [] := by
  unfold fX8_areValuesSame_b33 at h
  refine tw_iconst (v := 0) hO dX8_areValuesSame_33 (by decide) ?_
  exact wX8_areValuesSame_b34 hO hk4 h
set_option maxRecDepth 100000 in
set_option maxHeartbeats 4000000 in
theorem wX8_areValuesSame_h4 (hO : tw_O p s m args meth c cX8_areValuesSame RX8 3 (some .boolean) G) {k4 : (tw_St → Nat → Int32 → Int32 → Option (Int32))} (hk4 : ∀ (σ : tw_St) (a0 : Nat) (x1 : Int32) (x2 : Int32) (q : Int32), k4 σ a0 x1 x2 = some q → tw_X p l e rmX8_areValuesSame s m args below meth c 3 G σ 0 0 (tw_Q below args s G 0 0 (some (.int q)) σ) 4 [(0, .ref a0), (1, .int x1), (2, .int x2)] []) {σ : tw_St} {a0 : Nat} {x1 : Int32} {x2 : Int32} {q : Int32} (h : fX8_areValuesSame_h4 k4 σ a0 x1 x2 = some q) : tw_X p l e rmX8_areValuesSame s m args below meth c 3 G σ 0 0 (tw_Q below args s G 0 0 (some (.int q)) σ) 4 [(0, .ref a0), (1, .int x1), (2, .int x2)] [] := by
  unfold fX8_areValuesSame_h4 at h
  refine tw_iload_n 2 hO dX8_areValuesSame_4 rfl rfl ?_
  refine tw_bipush (v := 24) hO dX8_areValuesSame_5 (by decide) ?_
  refine tw_icmp_ge (tgt := 41) hO dX8_areValuesSame_7 (by decide) (fun cc => ?_) (fun cc => ?_)
  · replace h := tw_ifp cc h
    refine tw_iload_n 1 hO dX8_areValuesSame_41 rfl rfl ?_
    obtain ⟨_, hz, h⟩ := tw_bd h
    exact tw_zretR hO (tw_bz_sp hz).2.1 dX8_areValuesSame_42 h
  · replace h := tw_ifn cc h
    refine tw_iload_n 1 hO dX8_areValuesSame_10 rfl rfl ?_
    refine tw_if_eq (tgt := 33) hO dX8_areValuesSame_11 (by decide) (fun cc => ?_) (fun cc => ?_)
    · replace h := tw_ifp cc h
      refine tw_sub [0, 2] rfl ?_
      exact wX8_areValuesSame_b33 hO hk4 h
    · replace h := tw_ifn cc h
      refine tw_aload_n 0 hO dX8_areValuesSame_14 rfl rfl ?_
      obtain ⟨v15, e15, h⟩ := tw_bd h
      refine tw_getP hO dX8_areValuesSame_15 (t := 8) rfl 11 (by decide) rfl tw_w606 rfl e15 ?_
      refine tw_iload_n 2 hO dX8_areValuesSame_18 rfl rfl ?_
      obtain ⟨v19, e19, h⟩ := tw_bd h
      refine tw_iald hO dX8_areValuesSame_19 e19 ?_
      refine tw_aload_n 0 hO dX8_areValuesSame_20 rfl rfl ?_
      obtain ⟨v21, e21, h⟩ := tw_bd h
      refine tw_getP hO dX8_areValuesSame_21 (t := 8) rfl 23 (by decide) rfl tw_w618 rfl e21 ?_
      refine tw_iload_n 2 hO dX8_areValuesSame_24 rfl rfl ?_
      obtain ⟨v25, e25, h⟩ := tw_bd h
      refine tw_iald hO dX8_areValuesSame_25 e25 ?_
      refine tw_icmp_ne (tgt := 33) hO dX8_areValuesSame_26 (by decide) (fun cc => ?_) (fun cc => ?_)
      · replace h := tw_ifn cc h
        refine tw_sub [0, 2] rfl ?_
        exact wX8_areValuesSame_b33 hO hk4 h
      · replace h := tw_ifp cc h
        refine tw_iconst (v := 1) hO dX8_areValuesSame_29 (by decide) ?_
        refine tw_goto (tgt := 34) hO dX8_areValuesSame_30 (by decide) ?_
        refine tw_sub [0, 2] rfl ?_
        exact wX8_areValuesSame_b34 hO hk4 h
set_option maxRecDepth 100000 in
set_option maxHeartbeats 4000000 in
theorem wX8_areValuesSame_l4 (hO : tw_O p s m args meth c cX8_areValuesSame RX8 3 (some .boolean) G) : ∀ (n : Nat) (σ : tw_St) (a0 : Nat) (x1 : Int32) (x2 : Int32) (q : Int32), fX8_areValuesSame_l4 n σ a0 x1 x2 = some q → tw_X p l e rmX8_areValuesSame s m args below meth c 3 G σ 0 0 (tw_Q below args s G 0 0 (some (.int q)) σ) 4 [(0, .ref a0), (1, .int x1), (2, .int x2)] [] := by
  intro n
  induction n with
  | zero => intro _ _ _ _ q h; cases (show (none : Option (Int32)) = some q from h)
  | succ n ih => intro _ _ _ _ q h; exact wX8_areValuesSame_h4 hO ih h
set_option maxRecDepth 100000 in
set_option maxHeartbeats 4000000 in
theorem mX8_areValuesSame (l : Launch) (G : tw_G) {σ : tw_St} {a : Nat} {q : Int32} (h : fX8_areValuesSame σ a = some q) : tw_M l G yX8_areValuesSame cX8_areValuesSame 3 (some .boolean) rmX8_areValuesSame 0 0 σ [.ref a] (some (.int q)) σ := by
  unfold fX8_areValuesSame at h
  obtain ⟨_, -, h⟩ := tw_bd h
  refine tw_M.of (by decide +kernel) (Nat.le_of_ble_eq_true rfl) (fun p e s m args below meth c hnm hO => ?_)
  have hO : tw_O p s m args meth c cX8_areValuesSame RX8 3 (some .boolean) G := hO
  refine tw_iconst (v := 1) hO dX8_areValuesSame_0 (by decide) ?_
  refine tw_istore_n (lv' := [(1, .int 1), (0, .ref a)]) hO dX8_areValuesSame_1 rfl (by decide) rfl ?_
  refine tw_iconst (v := 0) hO dX8_areValuesSame_2 (by decide) ?_
  refine tw_istore_n (lv' := [(2, .int 0), (1, .int 1), (0, .ref a)]) hO dX8_areValuesSame_3 rfl (by decide) rfl ?_
  refine tw_sub [2, 1, 0] rfl ?_
  exact wX8_areValuesSame_l4 hO _ _ _ _ _ _ h
theorem cfX8_bestExchange : tw_CF yX8_bestExchange cX8_bestExchange 8 (some .int) 2 := ⟨tw_w845, tw_w56, by decide +kernel, by decide +kernel, by decide +kernel⟩
theorem kX8_bestExchange {σ : tw_St} {a : Nat} {x1 : Int32} {x2 : Int32} {q : Int32 × tw_St} (h : fX8_bestExchange σ a x1 x2 = some q) : tw_is σ 8 a = some () := by
  unfold fX8_bestExchange at h
  obtain ⟨_, e1, -⟩ := tw_bd h
  exact e1
set_option maxRecDepth 100000 in
set_option maxHeartbeats 4000000 in
theorem wX8_bestExchange_b178 (hO : tw_O p s m args meth c cX8_bestExchange RX8 8 (some .int) G) {σ : tw_St} {x4 : Int32} {q : Int32 × tw_St} (h : fX8_bestExchange_b178 σ x4 = some q) : tw_X p l e rmX8_bestExchange s m args below meth c 8 G σ 0 0 (tw_Q below args s G 0 0 (some (.int q.1)) q.2) 178 [(4, .int x4)] [] := by
  unfold fX8_bestExchange_b178 at h
  refine tw_iload 0 hO dX8_bestExchange_178 rfl ?_
  refine tw_goto (tgt := 184) hO dX8_bestExchange_180 (by decide) ?_
  exact tw_iret hO dX8_bestExchange_184 h
set_option maxRecDepth 100000 in
set_option maxHeartbeats 4000000 in
theorem wX8_bestExchange_b169 (hO : tw_O p s m args meth c cX8_bestExchange RX8 8 (some .int) G) {σ : tw_St} {x2 : Int32} {x3 : Int32} {x4 : Int32} {q : Int32 × tw_St} (h : fX8_bestExchange_b169 σ x2 x3 x4 = some q) : tw_X p l e rmX8_bestExchange s m args below meth c 8 G σ 0 0 (tw_Q below args s G 0 0 (some (.int q.1)) q.2) 169 [(2, .int x2), (3, .int x3), (4, .int x4)] [] := by
  unfold fX8_bestExchange_b169 at h
  refine tw_iload 2 hO dX8_bestExchange_169 rfl ?_
  refine tw_if_lt (tgt := 178) hO dX8_bestExchange_171 (by decide) (fun cc => ?_) (fun cc => ?_)
  · replace h := tw_ifp cc h
    refine tw_sub [2] rfl ?_
    exact wX8_bestExchange_b178 hO h
  · replace h := tw_ifn cc h
    refine tw_iload_n 0 hO dX8_bestExchange_174 rfl rfl ?_
    refine tw_if_ne (tgt := 183) hO dX8_bestExchange_175 (by decide) (fun cc => ?_) (fun cc => ?_)
    · replace h := tw_ifn cc h
      refine tw_iload_n 1 hO dX8_bestExchange_183 rfl rfl ?_
      exact tw_iret hO dX8_bestExchange_184 h
    · replace h := tw_ifp cc h
      refine tw_sub [2] rfl ?_
      exact wX8_bestExchange_b178 hO h
set_option maxRecDepth 100000 in
set_option maxHeartbeats 4000000 in
theorem wX8_bestExchange_b163 (hO : tw_O p s m args meth c cX8_bestExchange RX8 8 (some .int) G) {k63 : (tw_St → Nat → Int32 → Int32 → Int32 → Int32 → Int32 → Option (Int32 × tw_St))} (hk63 : ∀ (σ : tw_St) (a0 : Nat) (x1 : Int32) (x2 : Int32) (x3 : Int32) (x4 : Int32) (x5 : Int32) (q : Int32 × tw_St), k63 σ a0 x1 x2 x3 x4 x5 = some q → tw_X p l e rmX8_bestExchange s m args below meth c 8 G σ 0 0 (tw_Q below args s G 0 0 (some (.int q.1)) q.2) 63 [(0, .ref a0), (1, .int x1), (2, .int x2), (3, .int x3), (4, .int x4), (5, .int x5)] []) {σ : tw_St} {a0 : Nat} {x1 : Int32} {x2 : Int32} {x3 : Int32} {x4 : Int32} {x5 : Int32} {q : Int32 × tw_St} (h : fX8_bestExchange_b163 k63 σ a0 x1 x2 x3 x4 x5 = some q) : tw_X p l e rmX8_bestExchange s m args below meth c 8 G σ 0 0 (tw_Q below args s G 0 0 (some (.int q.1)) q.2) 163 [(0, .ref a0), (1, .int x1), (2, .int x2), (3, .int x3), (4, .int x4), (5, .int x5)] [] := by
  unfold fX8_bestExchange_b163 at h
  refine tw_iinc (q := 5) (v := (x5 + 1)) (lv' := [(5, .int (x5 + 1)), (0, .ref a0), (1, .int x1), (2, .int x2), (3, .int x3), (4, .int x4)]) hO dX8_bestExchange_163 rfl rfl (by decide) rfl ?_
  refine tw_goto (tgt := 63) hO dX8_bestExchange_166 (by decide) ?_
  refine tw_sub [1, 2, 3, 4, 5, 0] rfl ?_
  exact hk63 _ _ _ _ _ _ _ _ h
set_option maxRecDepth 100000 in
set_option maxHeartbeats 4000000 in
theorem wX8_bestExchange_b162 (hO : tw_O p s m args meth c cX8_bestExchange RX8 8 (some .int) G) {k63 : (tw_St → Nat → Int32 → Int32 → Int32 → Int32 → Int32 → Option (Int32 × tw_St))} (hk63 : ∀ (σ : tw_St) (a0 : Nat) (x1 : Int32) (x2 : Int32) (x3 : Int32) (x4 : Int32) (x5 : Int32) (q : Int32 × tw_St), k63 σ a0 x1 x2 x3 x4 x5 = some q → tw_X p l e rmX8_bestExchange s m args below meth c 8 G σ 0 0 (tw_Q below args s G 0 0 (some (.int q.1)) q.2) 63 [(0, .ref a0), (1, .int x1), (2, .int x2), (3, .int x3), (4, .int x4), (5, .int x5)] []) {σ : tw_St} {a0 : Nat} {x1 : Int32} {x2 : Int32} {x4 : Int32} {x5 : Int32} {z0 : Int32} {q : Int32 × tw_St} (h : fX8_bestExchange_b162 k63 σ a0 x1 x2 x4 x5 z0 = some q) : tw_X p l e rmX8_bestExchange s m args below meth c 8 G σ 0 0 (tw_Q below args s G 0 0 (some (.int q.1)) q.2) 162 [(0, .ref a0), (1, .int x1), (2, .int x2), (4, .int x4), (5, .int x5)] [.int z0] := by
  unfold fX8_bestExchange_b162 at h
  refine tw_istore_n (lv' := [(3, .int z0), (0, .ref a0), (1, .int x1), (2, .int x2), (4, .int x4), (5, .int x5)]) hO dX8_bestExchange_162 rfl (by decide) rfl ?_
  refine tw_sub [1, 2, 3, 0, 4, 5] rfl ?_
  exact wX8_bestExchange_b163 hO hk63 h
set_option maxRecDepth 100000 in
set_option maxHeartbeats 4000000 in
theorem wX8_bestExchange_b149 (hO : tw_O p s m args meth c cX8_bestExchange RX8 8 (some .int) G) {k63 : (tw_St → Nat → Int32 → Int32 → Int32 → Int32 → Int32 → Option (Int32 × tw_St))} (hk63 : ∀ (σ : tw_St) (a0 : Nat) (x1 : Int32) (x2 : Int32) (x3 : Int32) (x4 : Int32) (x5 : Int32) (q : Int32 × tw_St), k63 σ a0 x1 x2 x3 x4 x5 = some q → tw_X p l e rmX8_bestExchange s m args below meth c 8 G σ 0 0 (tw_Q below args s G 0 0 (some (.int q.1)) q.2) 63 [(0, .ref a0), (1, .int x1), (2, .int x2), (3, .int x3), (4, .int x4), (5, .int x5)] []) {σ : tw_St} {a0 : Nat} {x1 : Int32} {x2 : Int32} {x3 : Int32} {x5 : Int32} {x6 : Int32} {x7 : Int32} {z0 : Int32} {q : Int32 × tw_St} (h : fX8_bestExchange_b149 k63 σ a0 x1 x2 x3 x5 x6 x7 z0 = some q) : tw_X p l e rmX8_bestExchange s m args below meth c 8 G σ 0 0 (tw_Q below args s G 0 0 (some (.int q.1)) q.2) 149 [(0, .ref a0), (1, .int x1), (2, .int x2), (3, .int x3), (5, .int x5), (6, .int x6), (7, .int x7)] [.int z0] := by
  unfold fX8_bestExchange_b149 at h
  refine tw_istore (lv' := [(4, .int z0), (0, .ref a0), (1, .int x1), (2, .int x2), (3, .int x3), (5, .int x5), (6, .int x6), (7, .int x7)]) hO dX8_bestExchange_149 (by decide) rfl ?_
  refine tw_iload 7 hO dX8_bestExchange_151 rfl ?_
  refine tw_if_eq (tgt := 161) hO dX8_bestExchange_153 (by decide) (fun cc => ?_) (fun cc => ?_)
  · replace h := tw_ifp cc h
    refine tw_iload_n 4 hO dX8_bestExchange_161 rfl rfl ?_
    refine tw_sub [1, 2, 3, 0, 5] rfl ?_
    exact wX8_bestExchange_b162 hO hk63 h
  · replace h := tw_ifn cc h
    refine tw_iload 6 hO dX8_bestExchange_156 rfl ?_
    refine tw_goto (tgt := 162) hO dX8_bestExchange_158 (by decide) ?_
    refine tw_sub [1, 2, 3, 0, 5] rfl ?_
    exact wX8_bestExchange_b162 hO hk63 h
set_option maxRecDepth 100000 in
set_option maxHeartbeats 4000000 in
theorem wX8_bestExchange_b128 (hO : tw_O p s m args meth c cX8_bestExchange RX8 8 (some .int) G) {k63 : (tw_St → Nat → Int32 → Int32 → Int32 → Int32 → Int32 → Option (Int32 × tw_St))} (hk63 : ∀ (σ : tw_St) (a0 : Nat) (x1 : Int32) (x2 : Int32) (x3 : Int32) (x4 : Int32) (x5 : Int32) (q : Int32 × tw_St), k63 σ a0 x1 x2 x3 x4 x5 = some q → tw_X p l e rmX8_bestExchange s m args below meth c 8 G σ 0 0 (tw_Q below args s G 0 0 (some (.int q.1)) q.2) 63 [(0, .ref a0), (1, .int x1), (2, .int x2), (3, .int x3), (4, .int x4), (5, .int x5)] []) {σ : tw_St} {a0 : Nat} {x1 : Int32} {x2 : Int32} {x3 : Int32} {x4 : Int32} {x5 : Int32} {x6 : Int32} {z0 : Int32} {q : Int32 × tw_St} (h : fX8_bestExchange_b128 k63 σ a0 x1 x2 x3 x4 x5 x6 z0 = some q) : tw_X p l e rmX8_bestExchange s m args below meth c 8 G σ 0 0 (tw_Q below args s G 0 0 (some (.int q.1)) q.2) 128 [(0, .ref a0), (1, .int x1), (2, .int x2), (3, .int x3), (4, .int x4), (5, .int x5), (6, .int x6)] [.int z0] := by
  unfold fX8_bestExchange_b128 at h
  refine tw_istore (lv' := [(7, .int z0), (0, .ref a0), (1, .int x1), (2, .int x2), (3, .int x3), (4, .int x4), (5, .int x5), (6, .int x6)]) hO dX8_bestExchange_128 (by decide) rfl ?_
  refine tw_aload_n 1 hO dX8_bestExchange_130 rfl rfl ?_
  refine tw_iload_n 2 hO dX8_bestExchange_131 rfl rfl ?_
  refine tw_iload 6 hO dX8_bestExchange_132 rfl ?_
  obtain ⟨σ134, e134, h⟩ := tw_bd h
  refine tw_cVv hO (mX8_swap l G e134) cfX8_swap (t := 8) rfl (kX8_swap e134) tw_w850 tw_w852 tw_w45 rfl rfl rfl rfl ⟨(Nat.le_of_ble_eq_true rfl), (Nat.le_of_ble_eq_true rfl)⟩ (Nat.le_of_ble_eq_true rfl) ⟨(Nat.le_of_ble_eq_true rfl), (Nat.le_of_ble_eq_true rfl)⟩ dX8_bestExchange_134 ?_
  refine tw_iload 0 hO dX8_bestExchange_137 rfl ?_
  refine tw_if_eq (tgt := 147) hO dX8_bestExchange_139 (by decide) (fun cc => ?_) (fun cc => ?_)
  · replace h := tw_ifp cc h
    refine tw_iload 5 hO dX8_bestExchange_147 rfl ?_
    refine tw_sub [1, 2, 3, 4, 6, 7, 0] rfl ?_
    exact wX8_bestExchange_b149 hO hk63 h
  · replace h := tw_ifn cc h
    refine tw_iload 6 hO dX8_bestExchange_142 rfl ?_
    refine tw_goto (tgt := 149) hO dX8_bestExchange_144 (by decide) ?_
    refine tw_sub [1, 2, 3, 4, 6, 7, 0] rfl ?_
    exact wX8_bestExchange_b149 hO hk63 h
set_option maxRecDepth 100000 in
set_option maxHeartbeats 4000000 in
theorem wX8_bestExchange_b127 (hO : tw_O p s m args meth c cX8_bestExchange RX8 8 (some .int) G) {k63 : (tw_St → Nat → Int32 → Int32 → Int32 → Int32 → Int32 → Option (Int32 × tw_St))} (hk63 : ∀ (σ : tw_St) (a0 : Nat) (x1 : Int32) (x2 : Int32) (x3 : Int32) (x4 : Int32) (x5 : Int32) (q : Int32 × tw_St), k63 σ a0 x1 x2 x3 x4 x5 = some q → tw_X p l e rmX8_bestExchange s m args below meth c 8 G σ 0 0 (tw_Q below args s G 0 0 (some (.int q.1)) q.2) 63 [(0, .ref a0), (1, .int x1), (2, .int x2), (3, .int x3), (4, .int x4), (5, .int x5)] []) {σ : tw_St} {a0 : Nat} {x1 : Int32} {x2 : Int32} {x3 : Int32} {x4 : Int32} {x5 : Int32} {x6 : Int32} {q : Int32 × tw_St} (h : fX8_bestExchange_b127 k63 σ a0 x1 x2 x3 x4 x5 x6 = some q) : tw_X p l e rmX8_bestExchange s m args below meth c 8 G σ 0 0 (tw_Q below args s G 0 0 (some (.int q.1)) q.2) 127 [(0, .ref a0), (1, .int x1), (2, .int x2), (3, .int x3), (4, .int x4), (5, .int x5), (6, .int x6)] [] := by
  unfold fX8_bestExchange_b127 at h
  refine tw_iconst (v := 0) hO dX8_bestExchange_127 (by decide) ?_
  exact wX8_bestExchange_b128 hO hk63 h
set_option maxRecDepth 100000 in
set_option maxHeartbeats 4000000 in
theorem wX8_bestExchange_h63 (hO : tw_O p s m args meth c cX8_bestExchange RX8 8 (some .int) G) {k63 : (tw_St → Nat → Int32 → Int32 → Int32 → Int32 → Int32 → Option (Int32 × tw_St))} (hk63 : ∀ (σ : tw_St) (a0 : Nat) (x1 : Int32) (x2 : Int32) (x3 : Int32) (x4 : Int32) (x5 : Int32) (q : Int32 × tw_St), k63 σ a0 x1 x2 x3 x4 x5 = some q → tw_X p l e rmX8_bestExchange s m args below meth c 8 G σ 0 0 (tw_Q below args s G 0 0 (some (.int q.1)) q.2) 63 [(0, .ref a0), (1, .int x1), (2, .int x2), (3, .int x3), (4, .int x4), (5, .int x5)] []) {σ : tw_St} {a0 : Nat} {x1 : Int32} {x2 : Int32} {x3 : Int32} {x4 : Int32} {x5 : Int32} {q : Int32 × tw_St} (h : fX8_bestExchange_h63 k63 σ a0 x1 x2 x3 x4 x5 = some q) : tw_X p l e rmX8_bestExchange s m args below meth c 8 G σ 0 0 (tw_Q below args s G 0 0 (some (.int q.1)) q.2) 63 [(0, .ref a0), (1, .int x1), (2, .int x2), (3, .int x3), (4, .int x4), (5, .int x5)] [] := by
  unfold fX8_bestExchange_h63 at h
  refine tw_iload 5 hO dX8_bestExchange_63 rfl ?_
  refine tw_iconst (v := 1) hO dX8_bestExchange_65 (by decide) ?_
  refine tw_iadd hO dX8_bestExchange_66 ?_
  refine tw_aload_n 0 hO dX8_bestExchange_67 rfl rfl ?_
  refine tw_iload_n 1 hO dX8_bestExchange_68 rfl rfl ?_
  obtain ⟨v69, e69, h⟩ := tw_bd h
  refine tw_cVi hO (mX8_many l G e69) cfX8_many (t := 8) rfl (kX8_many e69) tw_w739 tw_w741 tw_w30 rfl rfl rfl rfl ⟨(Nat.le_of_ble_eq_true rfl), (Nat.le_of_ble_eq_true rfl)⟩ (Nat.le_of_ble_eq_true rfl) ⟨(Nat.le_of_ble_eq_true rfl), (Nat.le_of_ble_eq_true rfl)⟩ dX8_bestExchange_69 ?_
  refine tw_icmp_ge (tgt := 169) hO dX8_bestExchange_72 (by decide) (fun cc => ?_) (fun cc => ?_)
  · replace h := tw_ifp cc h
    refine tw_sub [2, 3, 4] rfl ?_
    exact wX8_bestExchange_b169 hO h
  · replace h := tw_ifn cc h
    refine tw_aload_n 0 hO dX8_bestExchange_75 rfl rfl ?_
    refine tw_iload_n 1 hO dX8_bestExchange_76 rfl rfl ?_
    refine tw_iload 5 hO dX8_bestExchange_77 rfl ?_
    obtain ⟨v79, e79, h⟩ := tw_bd h
    refine tw_cVi hO (mX8_isFixed l G e79) cfX8_isFixed (t := 8) rfl (kX8_isFixed e79) tw_w846 tw_w848 tw_w44 rfl rfl rfl rfl ⟨(Nat.le_of_ble_eq_true rfl), (Nat.le_of_ble_eq_true rfl)⟩ (Nat.le_of_ble_eq_true rfl) ⟨(Nat.le_of_ble_eq_true rfl), (Nat.le_of_ble_eq_true rfl)⟩ dX8_bestExchange_79 ?_
    refine tw_if_ne (tgt := 163) hO dX8_bestExchange_82 (by decide) (fun cc => ?_) (fun cc => ?_)
    · replace h := tw_ifn cc h
      exact wX8_bestExchange_b163 hO hk63 h
    · replace h := tw_ifp cc h
      refine tw_aload_n 0 hO dX8_bestExchange_85 rfl rfl ?_
      refine tw_iload_n 1 hO dX8_bestExchange_86 rfl rfl ?_
      refine tw_iload 5 hO dX8_bestExchange_87 rfl ?_
      refine tw_iconst (v := 1) hO dX8_bestExchange_89 (by decide) ?_
      refine tw_iadd hO dX8_bestExchange_90 ?_
      obtain ⟨v91, e91, h⟩ := tw_bd h
      refine tw_cVi hO (mX8_isFixed l G e91) cfX8_isFixed (t := 8) rfl (kX8_isFixed e91) tw_w846 tw_w848 tw_w44 rfl rfl rfl rfl ⟨(Nat.le_of_ble_eq_true rfl), (Nat.le_of_ble_eq_true rfl)⟩ (Nat.le_of_ble_eq_true rfl) ⟨(Nat.le_of_ble_eq_true rfl), (Nat.le_of_ble_eq_true rfl)⟩ dX8_bestExchange_91 ?_
      refine tw_if_ne (tgt := 163) hO dX8_bestExchange_94 (by decide) (fun cc => ?_) (fun cc => ?_)
      · replace h := tw_ifn cc h
        exact wX8_bestExchange_b163 hO hk63 h
      · replace h := tw_ifp cc h
        refine tw_aload_n 0 hO dX8_bestExchange_97 rfl rfl ?_
        refine tw_iload_n 1 hO dX8_bestExchange_98 rfl rfl ?_
        refine tw_iload 5 hO dX8_bestExchange_99 rfl ?_
        obtain ⟨σ101, e101, h⟩ := tw_bd h
        refine tw_cVv hO (mX8_swap l G e101) cfX8_swap (t := 8) rfl (kX8_swap e101) tw_w850 tw_w852 tw_w45 rfl rfl rfl rfl ⟨(Nat.le_of_ble_eq_true rfl), (Nat.le_of_ble_eq_true rfl)⟩ (Nat.le_of_ble_eq_true rfl) ⟨(Nat.le_of_ble_eq_true rfl), (Nat.le_of_ble_eq_true rfl)⟩ dX8_bestExchange_101 ?_
        refine tw_aload_n 0 hO dX8_bestExchange_104 rfl rfl ?_
        obtain ⟨q105, e105, h⟩ := tw_bd h
        refine tw_cVi hO (mX8_run l G e105) cfX8_run (t := 8) rfl (kX8_run e105) tw_w747 tw_w749 tw_w31 rfl rfl rfl rfl ⟨(Nat.le_of_ble_eq_true rfl), (Nat.le_of_ble_eq_true rfl)⟩ (Nat.le_of_ble_eq_true rfl) ⟨(Nat.le_of_ble_eq_true rfl), (Nat.le_of_ble_eq_true rfl)⟩ dX8_bestExchange_105 ?_
        refine tw_istore (lv' := [(6, .int q105.1), (0, .ref a0), (1, .int x1), (2, .int x2), (3, .int x3), (4, .int x4), (5, .int x5)]) hO dX8_bestExchange_108 (by decide) rfl ?_
        refine tw_iload 0 hO dX8_bestExchange_110 rfl ?_
        refine tw_iload_n 4 hO dX8_bestExchange_112 rfl rfl ?_
        refine tw_icmp_ge (tgt := 127) hO dX8_bestExchange_113 (by decide) (fun cc => ?_) (fun cc => ?_)
        · replace h := tw_ifp cc h
          refine tw_sub [1, 2, 3, 4, 5, 6, 0] rfl ?_
          exact wX8_bestExchange_b127 hO hk63 h
        · replace h := tw_ifn cc h
          refine tw_aload_n 1 hO dX8_bestExchange_116 rfl rfl ?_
          obtain ⟨v117, e117, h⟩ := tw_bd h
          refine tw_cVi hO (mX8_areValuesSame l G e117) cfX8_areValuesSame (t := 8) rfl (kX8_areValuesSame e117) tw_w854 tw_w856 tw_w46 rfl rfl rfl rfl ⟨(Nat.le_of_ble_eq_true rfl), (Nat.le_of_ble_eq_true rfl)⟩ (Nat.le_of_ble_eq_true rfl) ⟨(Nat.le_of_ble_eq_true rfl), (Nat.le_of_ble_eq_true rfl)⟩ dX8_bestExchange_117 ?_
          refine tw_if_eq (tgt := 127) hO dX8_bestExchange_120 (by decide) (fun cc => ?_) (fun cc => ?_)
          · replace h := tw_ifp cc h
            refine tw_sub [1, 2, 3, 4, 5, 6, 0] rfl ?_
            exact wX8_bestExchange_b127 hO hk63 h
          · replace h := tw_ifn cc h
            refine tw_iconst (v := 1) hO dX8_bestExchange_123 (by decide) ?_
            refine tw_goto (tgt := 128) hO dX8_bestExchange_124 (by decide) ?_
            refine tw_sub [1, 2, 3, 4, 5, 6, 0] rfl ?_
            exact wX8_bestExchange_b128 hO hk63 h
set_option maxRecDepth 100000 in
set_option maxHeartbeats 4000000 in
theorem wX8_bestExchange_l63 (hO : tw_O p s m args meth c cX8_bestExchange RX8 8 (some .int) G) : ∀ (n : Nat) (σ : tw_St) (a0 : Nat) (x1 : Int32) (x2 : Int32) (x3 : Int32) (x4 : Int32) (x5 : Int32) (q : Int32 × tw_St), fX8_bestExchange_l63 n σ a0 x1 x2 x3 x4 x5 = some q → tw_X p l e rmX8_bestExchange s m args below meth c 8 G σ 0 0 (tw_Q below args s G 0 0 (some (.int q.1)) q.2) 63 [(0, .ref a0), (1, .int x1), (2, .int x2), (3, .int x3), (4, .int x4), (5, .int x5)] [] := by
  intro n
  induction n with
  | zero => intro _ _ _ _ _ _ _ q h; cases (show (none : Option (Int32 × tw_St)) = some q from h)
  | succ n ih => intro _ _ _ _ _ _ _ q h; exact wX8_bestExchange_h63 hO ih h
set_option maxRecDepth 100000 in
set_option maxHeartbeats 4000000 in
theorem wX8_bestExchange_b60 (hO : tw_O p s m args meth c cX8_bestExchange RX8 8 (some .int) G) {σ : tw_St} {a0 : Nat} {x1 : Int32} {x2 : Int32} {x3 : Int32} {x4 : Int32} {q : Int32 × tw_St} (h : fX8_bestExchange_b60 σ a0 x1 x2 x3 x4 = some q) : tw_X p l e rmX8_bestExchange s m args below meth c 8 G σ 0 0 (tw_Q below args s G 0 0 (some (.int q.1)) q.2) 60 [(0, .ref a0), (1, .int x1), (2, .int x2), (3, .int x3), (4, .int x4)] [] := by
  unfold fX8_bestExchange_b60 at h
  refine tw_iconst (v := 0) hO dX8_bestExchange_60 (by decide) ?_
  refine tw_istore (lv' := [(5, .int 0), (0, .ref a0), (1, .int x1), (2, .int x2), (3, .int x3), (4, .int x4)]) hO dX8_bestExchange_61 (by decide) rfl ?_
  refine tw_sub [1, 2, 3, 4, 5, 0] rfl ?_
  exact wX8_bestExchange_l63 hO _ _ _ _ _ _ _ _ _ h
set_option maxRecDepth 100000 in
set_option maxHeartbeats 4000000 in
theorem wX8_bestExchange_h33 (hO : tw_O p s m args meth c cX8_bestExchange RX8 8 (some .int) G) {k33 : (tw_St → Nat → Int32 → Int32 → Int32 → Int32 → Int32 → Option (Int32 × tw_St))} (hk33 : ∀ (σ : tw_St) (a0 : Nat) (x1 : Int32) (x2 : Int32) (x3 : Int32) (x4 : Int32) (x5 : Int32) (q : Int32 × tw_St), k33 σ a0 x1 x2 x3 x4 x5 = some q → tw_X p l e rmX8_bestExchange s m args below meth c 8 G σ 0 0 (tw_Q below args s G 0 0 (some (.int q.1)) q.2) 33 [(0, .ref a0), (1, .int x1), (2, .int x2), (3, .int x3), (4, .int x4), (5, .int x5)] []) {σ : tw_St} {a0 : Nat} {x1 : Int32} {x2 : Int32} {x3 : Int32} {x4 : Int32} {x5 : Int32} {q : Int32 × tw_St} (h : fX8_bestExchange_h33 k33 σ a0 x1 x2 x3 x4 x5 = some q) : tw_X p l e rmX8_bestExchange s m args below meth c 8 G σ 0 0 (tw_Q below args s G 0 0 (some (.int q.1)) q.2) 33 [(0, .ref a0), (1, .int x1), (2, .int x2), (3, .int x3), (4, .int x4), (5, .int x5)] [] := by
  unfold fX8_bestExchange_h33 at h
  refine tw_iload 5 hO dX8_bestExchange_33 rfl ?_
  refine tw_bipush (v := 24) hO dX8_bestExchange_35 (by decide) ?_
  refine tw_icmp_ge (tgt := 60) hO dX8_bestExchange_37 (by decide) (fun cc => ?_) (fun cc => ?_)
  · replace h := tw_ifp cc h
    refine tw_sub [0, 1, 2, 3, 4] rfl ?_
    exact wX8_bestExchange_b60 hO h
  · replace h := tw_ifn cc h
    refine tw_aload_n 0 hO dX8_bestExchange_40 rfl rfl ?_
    obtain ⟨v41, e41, h⟩ := tw_bd h
    refine tw_getP hO dX8_bestExchange_41 (t := 8) rfl 23 (by decide) rfl tw_w618 rfl e41 ?_
    refine tw_iload 5 hO dX8_bestExchange_44 rfl ?_
    refine tw_aload_n 0 hO dX8_bestExchange_46 rfl rfl ?_
    obtain ⟨v47, e47, h⟩ := tw_bd h
    refine tw_getP hO dX8_bestExchange_47 (t := 8) rfl 11 (by decide) rfl tw_w606 rfl e47 ?_
    refine tw_iload 5 hO dX8_bestExchange_50 rfl ?_
    obtain ⟨v52, e52, h⟩ := tw_bd h
    refine tw_iald hO dX8_bestExchange_52 e52 ?_
    obtain ⟨σ53, e53, h⟩ := tw_bd h
    refine tw_iast hO dX8_bestExchange_53 e53 ?_
    refine tw_iinc (q := 5) (v := (x5 + 1)) (lv' := [(5, .int (x5 + 1)), (0, .ref a0), (1, .int x1), (2, .int x2), (3, .int x3), (4, .int x4)]) hO dX8_bestExchange_54 rfl rfl (by decide) rfl ?_
    refine tw_goto (tgt := 33) hO dX8_bestExchange_57 (by decide) ?_
    refine tw_sub [1, 2, 3, 4, 5, 0] rfl ?_
    exact hk33 _ _ _ _ _ _ _ _ h
set_option maxRecDepth 100000 in
set_option maxHeartbeats 4000000 in
theorem wX8_bestExchange_l33 (hO : tw_O p s m args meth c cX8_bestExchange RX8 8 (some .int) G) : ∀ (n : Nat) (σ : tw_St) (a0 : Nat) (x1 : Int32) (x2 : Int32) (x3 : Int32) (x4 : Int32) (x5 : Int32) (q : Int32 × tw_St), fX8_bestExchange_l33 n σ a0 x1 x2 x3 x4 x5 = some q → tw_X p l e rmX8_bestExchange s m args below meth c 8 G σ 0 0 (tw_Q below args s G 0 0 (some (.int q.1)) q.2) 33 [(0, .ref a0), (1, .int x1), (2, .int x2), (3, .int x3), (4, .int x4), (5, .int x5)] [] := by
  intro n
  induction n with
  | zero => intro _ _ _ _ _ _ _ q h; cases (show (none : Option (Int32 × tw_St)) = some q from h)
  | succ n ih => intro _ _ _ _ _ _ _ q h; exact wX8_bestExchange_h33 hO ih h
set_option maxRecDepth 100000 in
set_option maxHeartbeats 4000000 in
theorem mX8_bestExchange (l : Launch) (G : tw_G) {σ : tw_St} {a : Nat} {x1 : Int32} {x2 : Int32} {q : Int32 × tw_St} (h : fX8_bestExchange σ a x1 x2 = some q) : tw_M l G yX8_bestExchange cX8_bestExchange 8 (some .int) rmX8_bestExchange 0 0 σ [.ref a, .int x1, .int x2] (some (.int q.1)) q.2 := by
  unfold fX8_bestExchange at h
  obtain ⟨_, -, h⟩ := tw_bd h
  refine tw_M.of (by decide +kernel) (Nat.le_of_ble_eq_true rfl) (fun p e s m args below meth c hnm hO => ?_)
  have hO : tw_O p s m args meth c cX8_bestExchange RX8 8 (some .int) G := hO
  refine tw_iload_n 1 hO dX8_bestExchange_0 rfl rfl ?_
  obtain ⟨v1, e1, h⟩ := tw_bd h
  refine tw_cSi hO (mX8_isThread l G e1) cfX8_isThread tw_w683 tw_w684 rfl rfl rfl rfl ⟨(Nat.le_of_ble_eq_true rfl), (Nat.le_of_ble_eq_true rfl)⟩ (Nat.le_of_ble_eq_true rfl) ⟨(Nat.le_of_ble_eq_true rfl), (Nat.le_of_ble_eq_true rfl)⟩ dX8_bestExchange_1 ?_
  refine tw_if_ne (tgt := 9) hO dX8_bestExchange_4 (by decide) (fun cc => ?_) (fun cc => ?_)
  · replace h := tw_ifn cc h
    refine tw_iload_n 2 hO dX8_bestExchange_9 rfl rfl ?_
    refine tw_iconst (v := 0) hO dX8_bestExchange_10 (by decide) ?_
    refine tw_iconst (v := 1) hO dX8_bestExchange_11 (by decide) ?_
    obtain ⟨v12, e12, h⟩ := tw_bd h
    refine tw_cSi hO (mX8_in l G e12) cfX8_in tw_w672 tw_w673 rfl rfl rfl rfl ⟨(Nat.le_of_ble_eq_true rfl), (Nat.le_of_ble_eq_true rfl)⟩ (Nat.le_of_ble_eq_true rfl) ⟨(Nat.le_of_ble_eq_true rfl), (Nat.le_of_ble_eq_true rfl)⟩ dX8_bestExchange_12 ?_
    refine tw_if_ne (tgt := 21) hO dX8_bestExchange_15 (by decide) (fun cc => ?_) (fun cc => ?_)
    · replace h := tw_ifn cc h
      refine tw_aload_n 0 hO dX8_bestExchange_21 rfl rfl ?_
      obtain ⟨q22, e22, h⟩ := tw_bd h
      refine tw_cVi hO (mX8_run l G e22) cfX8_run (t := 8) rfl (kX8_run e22) tw_w747 tw_w749 tw_w31 rfl rfl rfl rfl ⟨(Nat.le_of_ble_eq_true rfl), (Nat.le_of_ble_eq_true rfl)⟩ (Nat.le_of_ble_eq_true rfl) ⟨(Nat.le_of_ble_eq_true rfl), (Nat.le_of_ble_eq_true rfl)⟩ dX8_bestExchange_22 ?_
      refine tw_istore_n (lv' := [(3, .int q22.1), (0, .ref a), (1, .int x1), (2, .int x2)]) hO dX8_bestExchange_25 rfl (by decide) rfl ?_
      refine tw_bipush (v := (-6)) hO dX8_bestExchange_26 (by decide) ?_
      refine tw_istore (lv' := [(4, .int (-6)), (3, .int q22.1), (0, .ref a), (1, .int x1), (2, .int x2)]) hO dX8_bestExchange_28 (by decide) rfl ?_
      refine tw_iconst (v := 0) hO dX8_bestExchange_30 (by decide) ?_
      refine tw_istore (lv' := [(5, .int 0), (4, .int (-6)), (3, .int q22.1), (0, .ref a), (1, .int x1), (2, .int x2)]) hO dX8_bestExchange_31 (by decide) rfl ?_
      refine tw_sub [3, 4, 5, 2, 1, 0] rfl ?_
      exact wX8_bestExchange_l33 hO _ _ _ _ _ _ _ _ _ h
    · replace h := tw_ifp cc h
      refine tw_bipush (v := (-2)) hO dX8_bestExchange_18 (by decide) ?_
      exact tw_iret hO dX8_bestExchange_20 h
  · replace h := tw_ifp cc h
    refine tw_iconst (v := (-1)) hO dX8_bestExchange_7 (by decide) ?_
    exact tw_iret hO dX8_bestExchange_8 h
theorem cfX8_undo : tw_CF yX8_undo cX8_undo 2 (some .int) 0 := ⟨tw_w861, tw_w56, by decide +kernel, by decide +kernel, by decide +kernel⟩
theorem kX8_undo {σ : tw_St} {a : Nat} {q : Int32 × tw_St} (h : fX8_undo σ a = some q) : tw_is σ 8 a = some () := by
  unfold fX8_undo at h
  obtain ⟨_, e1, -⟩ := tw_bd h
  exact e1
set_option maxRecDepth 100000 in
set_option maxHeartbeats 4000000 in
theorem wX8_undo_b56 (hO : tw_O p s m args meth c cX8_undo RX8 2 (some .int) G) {σ : tw_St} {a0 : Nat} {q : Int32 × tw_St} (h : fX8_undo_b56 σ a0 = some q) : tw_X p l e rmX8_undo s m args below meth c 2 G σ 0 0 (tw_Q below args s G 0 0 (some (.int q.1)) q.2) 56 [(0, .ref a0)] [] := by
  unfold fX8_undo_b56 at h
  refine tw_aload_n 0 hO dX8_undo_56 rfl rfl ?_
  obtain ⟨v57, e57, h⟩ := tw_bd h
  refine tw_getI hO dX8_undo_57 (t := 8) rfl 2 (by decide) rfl tw_w597 rfl e57 ?_
  exact tw_iret hO dX8_undo_60 h
set_option maxRecDepth 100000 in
set_option maxHeartbeats 4000000 in
theorem wX8_undo_h22 (hO : tw_O p s m args meth c cX8_undo RX8 2 (some .int) G) {k22 : (tw_St → Nat → Int32 → Option (Int32 × tw_St))} (hk22 : ∀ (σ : tw_St) (a0 : Nat) (x1 : Int32) (q : Int32 × tw_St), k22 σ a0 x1 = some q → tw_X p l e rmX8_undo s m args below meth c 2 G σ 0 0 (tw_Q below args s G 0 0 (some (.int q.1)) q.2) 22 [(0, .ref a0), (1, .int x1)] []) {σ : tw_St} {a0 : Nat} {x1 : Int32} {q : Int32 × tw_St} (h : fX8_undo_h22 k22 σ a0 x1 = some q) : tw_X p l e rmX8_undo s m args below meth c 2 G σ 0 0 (tw_Q below args s G 0 0 (some (.int q.1)) q.2) 22 [(0, .ref a0), (1, .int x1)] [] := by
  unfold fX8_undo_h22 at h
  refine tw_iload_n 1 hO dX8_undo_22 rfl rfl ?_
  refine tw_sipush (v := 210) hO dX8_undo_23 (by decide) ?_
  refine tw_icmp_ge (tgt := 56) hO dX8_undo_26 (by decide) (fun cc => ?_) (fun cc => ?_)
  · replace h := tw_ifp cc h
    refine tw_sub [0] rfl ?_
    exact wX8_undo_b56 hO h
  · replace h := tw_ifn cc h
    refine tw_aload_n 0 hO dX8_undo_29 rfl rfl ?_
    obtain ⟨v30, e30, h⟩ := tw_bd h
    refine tw_getP hO dX8_undo_30 (t := 8) rfl 0 (by decide) rfl tw_w595 rfl e30 ?_
    refine tw_iload_n 1 hO dX8_undo_33 rfl rfl ?_
    refine tw_aload_n 0 hO dX8_undo_34 rfl rfl ?_
    obtain ⟨v35, e35, h⟩ := tw_bd h
    refine tw_getP hO dX8_undo_35 (t := 8) rfl 1 (by decide) rfl tw_w596 rfl e35 ?_
    refine tw_aload_n 0 hO dX8_undo_38 rfl rfl ?_
    obtain ⟨v39, e39, h⟩ := tw_bd h
    refine tw_getI hO dX8_undo_39 (t := 8) rfl 2 (by decide) rfl tw_w597 rfl e39 ?_
    refine tw_sipush (v := 210) hO dX8_undo_42 (by decide) ?_
    refine tw_imul hO dX8_undo_45 ?_
    refine tw_iload_n 1 hO dX8_undo_46 rfl rfl ?_
    refine tw_iadd hO dX8_undo_47 ?_
    obtain ⟨v48, e48, h⟩ := tw_bd h
    refine tw_iald hO dX8_undo_48 e48 ?_
    obtain ⟨σ49, e49, h⟩ := tw_bd h
    refine tw_iast hO dX8_undo_49 e49 ?_
    refine tw_iinc (q := 1) (v := (x1 + 1)) (lv' := [(1, .int (x1 + 1)), (0, .ref a0)]) hO dX8_undo_50 rfl rfl (by decide) rfl ?_
    refine tw_goto (tgt := 22) hO dX8_undo_53 (by decide) ?_
    refine tw_sub [1, 0] rfl ?_
    exact hk22 _ _ _ _ h
set_option maxRecDepth 100000 in
set_option maxHeartbeats 4000000 in
theorem wX8_undo_l22 (hO : tw_O p s m args meth c cX8_undo RX8 2 (some .int) G) : ∀ (n : Nat) (σ : tw_St) (a0 : Nat) (x1 : Int32) (q : Int32 × tw_St), fX8_undo_l22 n σ a0 x1 = some q → tw_X p l e rmX8_undo s m args below meth c 2 G σ 0 0 (tw_Q below args s G 0 0 (some (.int q.1)) q.2) 22 [(0, .ref a0), (1, .int x1)] [] := by
  intro n
  induction n with
  | zero => intro _ _ _ q h; cases (show (none : Option (Int32 × tw_St)) = some q from h)
  | succ n ih => intro _ _ _ q h; exact wX8_undo_h22 hO ih h
set_option maxRecDepth 100000 in
set_option maxHeartbeats 4000000 in
theorem mX8_undo (l : Launch) (G : tw_G) {σ : tw_St} {a : Nat} {q : Int32 × tw_St} (h : fX8_undo σ a = some q) : tw_M l G yX8_undo cX8_undo 2 (some .int) rmX8_undo 0 0 σ [.ref a] (some (.int q.1)) q.2 := by
  unfold fX8_undo at h
  obtain ⟨_, -, h⟩ := tw_bd h
  refine tw_M.of (by decide +kernel) (Nat.le_of_ble_eq_true rfl) (fun p e s m args below meth c hnm hO => ?_)
  have hO : tw_O p s m args meth c cX8_undo RX8 2 (some .int) G := hO
  refine tw_aload_n 0 hO dX8_undo_0 rfl rfl ?_
  obtain ⟨v1, e1, h⟩ := tw_bd h
  refine tw_getI hO dX8_undo_1 (t := 8) rfl 2 (by decide) rfl tw_w597 rfl e1 ?_
  refine tw_if_ne (tgt := 10) hO dX8_undo_4 (by decide) (fun cc => ?_) (fun cc => ?_)
  · replace h := tw_ifn cc h
    refine tw_aload_n 0 hO dX8_undo_10 rfl rfl ?_
    refine tw_dup hO dX8_undo_11 rfl ?_
    obtain ⟨v12, e12, h⟩ := tw_bd h
    refine tw_getI hO dX8_undo_12 (t := 8) rfl 2 (by decide) rfl tw_w597 rfl e12 ?_
    refine tw_iconst (v := 1) hO dX8_undo_15 (by decide) ?_
    refine tw_isub hO dX8_undo_16 ?_
    obtain ⟨σ17, e17, h⟩ := tw_bd h
    refine tw_putI hO dX8_undo_17 (t := 8) rfl 2 (by decide) rfl tw_w597 rfl rfl ⟨rfl, rfl⟩ e17 ?_
    refine tw_iconst (v := 0) hO dX8_undo_20 (by decide) ?_
    refine tw_istore_n (lv' := [(1, .int 0), (0, .ref a)]) hO dX8_undo_21 rfl (by decide) rfl ?_
    refine tw_sub [1, 0] rfl ?_
    exact wX8_undo_l22 hO _ _ _ _ _ h
  · replace h := tw_ifp cc h
    refine tw_bipush (v := (-5)) hO dX8_undo_7 (by decide) ?_
    exact tw_iret hO dX8_undo_9 h
theorem cfX8_save : tw_CF yX8_save cX8_save 3 (some .int) 1 := ⟨tw_w865, tw_w56, by decide +kernel, by decide +kernel, by decide +kernel⟩
theorem kX8_save {σ : tw_St} {a : Nat} {x1 : Int32} {q : Int32 × tw_St} (h : fX8_save σ a x1 = some q) : tw_is σ 8 a = some () := by
  unfold fX8_save at h
  obtain ⟨_, e1, -⟩ := tw_bd h
  exact e1
set_option maxRecDepth 100000 in
set_option maxHeartbeats 4000000 in
theorem wX8_save_b45 (hO : tw_O p s m args meth c cX8_save RX8 3 (some .int) G) {σ : tw_St} {a0 : Nat} {x1 : Int32} {q : Int32 × tw_St} (h : fX8_save_b45 σ a0 x1 = some q) : tw_X p l e rmX8_save s m args below meth c 3 G σ 0 0 (tw_Q below args s G 0 0 (some (.int q.1)) q.2) 45 [(0, .ref a0), (1, .int x1)] [] := by
  unfold fX8_save_b45 at h
  refine tw_aload_n 0 hO dX8_save_45 rfl rfl ?_
  obtain ⟨v46, e46, h⟩ := tw_bd h
  refine tw_getP hO dX8_save_46 (t := 8) rfl 4 (by decide) rfl tw_w599 rfl e46 ?_
  refine tw_iload_n 1 hO dX8_save_49 rfl rfl ?_
  refine tw_iconst (v := 1) hO dX8_save_50 (by decide) ?_
  obtain ⟨_, hz51, h⟩ := tw_bd h
  obtain ⟨σ51, e51, h⟩ := tw_bd h
  refine tw_zast hO dX8_save_51 hz51 e51 ?_
  refine tw_aload_n 0 hO dX8_save_52 rfl rfl ?_
  obtain ⟨q53, e53, h⟩ := tw_bd h
  refine tw_cVi hO (mX8_run l G e53) cfX8_run (t := 8) rfl (kX8_run e53) tw_w747 tw_w749 tw_w31 rfl rfl rfl rfl ⟨(Nat.le_of_ble_eq_true rfl), (Nat.le_of_ble_eq_true rfl)⟩ (Nat.le_of_ble_eq_true rfl) ⟨(Nat.le_of_ble_eq_true rfl), (Nat.le_of_ble_eq_true rfl)⟩ dX8_save_53 ?_
  exact tw_iret hO dX8_save_56 h
set_option maxRecDepth 100000 in
set_option maxHeartbeats 4000000 in
theorem wX8_save_h14 (hO : tw_O p s m args meth c cX8_save RX8 3 (some .int) G) {k14 : (tw_St → Nat → Int32 → Int32 → Option (Int32 × tw_St))} (hk14 : ∀ (σ : tw_St) (a0 : Nat) (x1 : Int32) (x2 : Int32) (q : Int32 × tw_St), k14 σ a0 x1 x2 = some q → tw_X p l e rmX8_save s m args below meth c 3 G σ 0 0 (tw_Q below args s G 0 0 (some (.int q.1)) q.2) 14 [(0, .ref a0), (1, .int x1), (2, .int x2)] []) {σ : tw_St} {a0 : Nat} {x1 : Int32} {x2 : Int32} {q : Int32 × tw_St} (h : fX8_save_h14 k14 σ a0 x1 x2 = some q) : tw_X p l e rmX8_save s m args below meth c 3 G σ 0 0 (tw_Q below args s G 0 0 (some (.int q.1)) q.2) 14 [(0, .ref a0), (1, .int x1), (2, .int x2)] [] := by
  unfold fX8_save_h14 at h
  refine tw_iload_n 2 hO dX8_save_14 rfl rfl ?_
  refine tw_sipush (v := 210) hO dX8_save_15 (by decide) ?_
  refine tw_icmp_ge (tgt := 45) hO dX8_save_18 (by decide) (fun cc => ?_) (fun cc => ?_)
  · replace h := tw_ifp cc h
    refine tw_sub [0, 1] rfl ?_
    exact wX8_save_b45 hO h
  · replace h := tw_ifn cc h
    refine tw_aload_n 0 hO dX8_save_21 rfl rfl ?_
    obtain ⟨v22, e22, h⟩ := tw_bd h
    refine tw_getP hO dX8_save_22 (t := 8) rfl 3 (by decide) rfl tw_w598 rfl e22 ?_
    refine tw_iload_n 1 hO dX8_save_25 rfl rfl ?_
    refine tw_sipush (v := 210) hO dX8_save_26 (by decide) ?_
    refine tw_imul hO dX8_save_29 ?_
    refine tw_iload_n 2 hO dX8_save_30 rfl rfl ?_
    refine tw_iadd hO dX8_save_31 ?_
    refine tw_aload_n 0 hO dX8_save_32 rfl rfl ?_
    obtain ⟨v33, e33, h⟩ := tw_bd h
    refine tw_getP hO dX8_save_33 (t := 8) rfl 0 (by decide) rfl tw_w595 rfl e33 ?_
    refine tw_iload_n 2 hO dX8_save_36 rfl rfl ?_
    obtain ⟨v37, e37, h⟩ := tw_bd h
    refine tw_iald hO dX8_save_37 e37 ?_
    obtain ⟨σ38, e38, h⟩ := tw_bd h
    refine tw_iast hO dX8_save_38 e38 ?_
    refine tw_iinc (q := 2) (v := (x2 + 1)) (lv' := [(2, .int (x2 + 1)), (0, .ref a0), (1, .int x1)]) hO dX8_save_39 rfl rfl (by decide) rfl ?_
    refine tw_goto (tgt := 14) hO dX8_save_42 (by decide) ?_
    refine tw_sub [1, 2, 0] rfl ?_
    exact hk14 _ _ _ _ _ h
set_option maxRecDepth 100000 in
set_option maxHeartbeats 4000000 in
theorem wX8_save_l14 (hO : tw_O p s m args meth c cX8_save RX8 3 (some .int) G) : ∀ (n : Nat) (σ : tw_St) (a0 : Nat) (x1 : Int32) (x2 : Int32) (q : Int32 × tw_St), fX8_save_l14 n σ a0 x1 x2 = some q → tw_X p l e rmX8_save s m args below meth c 3 G σ 0 0 (tw_Q below args s G 0 0 (some (.int q.1)) q.2) 14 [(0, .ref a0), (1, .int x1), (2, .int x2)] [] := by
  intro n
  induction n with
  | zero => intro _ _ _ _ q h; cases (show (none : Option (Int32 × tw_St)) = some q from h)
  | succ n ih => intro _ _ _ _ q h; exact wX8_save_h14 hO ih h
set_option maxRecDepth 100000 in
set_option maxHeartbeats 4000000 in
theorem mX8_save (l : Launch) (G : tw_G) {σ : tw_St} {a : Nat} {x1 : Int32} {q : Int32 × tw_St} (h : fX8_save σ a x1 = some q) : tw_M l G yX8_save cX8_save 3 (some .int) rmX8_save 0 0 σ [.ref a, .int x1] (some (.int q.1)) q.2 := by
  unfold fX8_save at h
  obtain ⟨_, -, h⟩ := tw_bd h
  refine tw_M.of (by decide +kernel) (Nat.le_of_ble_eq_true rfl) (fun p e s m args below meth c hnm hO => ?_)
  have hO : tw_O p s m args meth c cX8_save RX8 3 (some .int) G := hO
  refine tw_iload_n 1 hO dX8_save_0 rfl rfl ?_
  refine tw_iconst (v := 0) hO dX8_save_1 (by decide) ?_
  refine tw_iconst (v := 1) hO dX8_save_2 (by decide) ?_
  obtain ⟨v3, e3, h⟩ := tw_bd h
  refine tw_cSi hO (mX8_in l G e3) cfX8_in tw_w672 tw_w673 rfl rfl rfl rfl ⟨(Nat.le_of_ble_eq_true rfl), (Nat.le_of_ble_eq_true rfl)⟩ (Nat.le_of_ble_eq_true rfl) ⟨(Nat.le_of_ble_eq_true rfl), (Nat.le_of_ble_eq_true rfl)⟩ dX8_save_3 ?_
  refine tw_if_ne (tgt := 12) hO dX8_save_6 (by decide) (fun cc => ?_) (fun cc => ?_)
  · replace h := tw_ifn cc h
    refine tw_iconst (v := 0) hO dX8_save_12 (by decide) ?_
    refine tw_istore_n (lv' := [(2, .int 0), (0, .ref a), (1, .int x1)]) hO dX8_save_13 rfl (by decide) rfl ?_
    refine tw_sub [1, 2, 0] rfl ?_
    exact wX8_save_l14 hO _ _ _ _ _ _ h
  · replace h := tw_ifp cc h
    refine tw_bipush (v := (-2)) hO dX8_save_9 (by decide) ?_
    exact tw_iret hO dX8_save_11 h
theorem cfX8_restore : tw_CF yX8_restore cX8_restore 3 (some .int) 1 := ⟨tw_w869, tw_w56, by decide +kernel, by decide +kernel, by decide +kernel⟩
theorem kX8_restore {σ : tw_St} {a : Nat} {x1 : Int32} {q : Int32 × tw_St} (h : fX8_restore σ a x1 = some q) : tw_is σ 8 a = some () := by
  unfold fX8_restore at h
  obtain ⟨_, e1, -⟩ := tw_bd h
  exact e1
set_option maxRecDepth 100000 in
set_option maxHeartbeats 4000000 in
theorem wX8_restore_b61 (hO : tw_O p s m args meth c cX8_restore RX8 3 (some .int) G) {σ : tw_St} {a0 : Nat} {q : Int32 × tw_St} (h : fX8_restore_b61 σ a0 = some q) : tw_X p l e rmX8_restore s m args below meth c 3 G σ 0 0 (tw_Q below args s G 0 0 (some (.int q.1)) q.2) 61 [(0, .ref a0)] [] := by
  unfold fX8_restore_b61 at h
  refine tw_aload_n 0 hO dX8_restore_61 rfl rfl ?_
  obtain ⟨q62, e62, h⟩ := tw_bd h
  refine tw_cVi hO (mX8_run l G e62) cfX8_run (t := 8) rfl (kX8_run e62) tw_w747 tw_w749 tw_w31 rfl rfl rfl rfl ⟨(Nat.le_of_ble_eq_true rfl), (Nat.le_of_ble_eq_true rfl)⟩ (Nat.le_of_ble_eq_true rfl) ⟨(Nat.le_of_ble_eq_true rfl), (Nat.le_of_ble_eq_true rfl)⟩ dX8_restore_62 ?_
  exact tw_iret hO dX8_restore_65 h
set_option maxRecDepth 100000 in
set_option maxHeartbeats 4000000 in
theorem wX8_restore_h30 (hO : tw_O p s m args meth c cX8_restore RX8 3 (some .int) G) {k30 : (tw_St → Nat → Int32 → Int32 → Option (Int32 × tw_St))} (hk30 : ∀ (σ : tw_St) (a0 : Nat) (x1 : Int32) (x2 : Int32) (q : Int32 × tw_St), k30 σ a0 x1 x2 = some q → tw_X p l e rmX8_restore s m args below meth c 3 G σ 0 0 (tw_Q below args s G 0 0 (some (.int q.1)) q.2) 30 [(0, .ref a0), (1, .int x1), (2, .int x2)] []) {σ : tw_St} {a0 : Nat} {x1 : Int32} {x2 : Int32} {q : Int32 × tw_St} (h : fX8_restore_h30 k30 σ a0 x1 x2 = some q) : tw_X p l e rmX8_restore s m args below meth c 3 G σ 0 0 (tw_Q below args s G 0 0 (some (.int q.1)) q.2) 30 [(0, .ref a0), (1, .int x1), (2, .int x2)] [] := by
  unfold fX8_restore_h30 at h
  refine tw_iload_n 2 hO dX8_restore_30 rfl rfl ?_
  refine tw_sipush (v := 210) hO dX8_restore_31 (by decide) ?_
  refine tw_icmp_ge (tgt := 61) hO dX8_restore_34 (by decide) (fun cc => ?_) (fun cc => ?_)
  · replace h := tw_ifp cc h
    refine tw_sub [0] rfl ?_
    exact wX8_restore_b61 hO h
  · replace h := tw_ifn cc h
    refine tw_aload_n 0 hO dX8_restore_37 rfl rfl ?_
    obtain ⟨v38, e38, h⟩ := tw_bd h
    refine tw_getP hO dX8_restore_38 (t := 8) rfl 0 (by decide) rfl tw_w595 rfl e38 ?_
    refine tw_iload_n 2 hO dX8_restore_41 rfl rfl ?_
    refine tw_aload_n 0 hO dX8_restore_42 rfl rfl ?_
    obtain ⟨v43, e43, h⟩ := tw_bd h
    refine tw_getP hO dX8_restore_43 (t := 8) rfl 3 (by decide) rfl tw_w598 rfl e43 ?_
    refine tw_iload_n 1 hO dX8_restore_46 rfl rfl ?_
    refine tw_sipush (v := 210) hO dX8_restore_47 (by decide) ?_
    refine tw_imul hO dX8_restore_50 ?_
    refine tw_iload_n 2 hO dX8_restore_51 rfl rfl ?_
    refine tw_iadd hO dX8_restore_52 ?_
    obtain ⟨v53, e53, h⟩ := tw_bd h
    refine tw_iald hO dX8_restore_53 e53 ?_
    obtain ⟨σ54, e54, h⟩ := tw_bd h
    refine tw_iast hO dX8_restore_54 e54 ?_
    refine tw_iinc (q := 2) (v := (x2 + 1)) (lv' := [(2, .int (x2 + 1)), (0, .ref a0), (1, .int x1)]) hO dX8_restore_55 rfl rfl (by decide) rfl ?_
    refine tw_goto (tgt := 30) hO dX8_restore_58 (by decide) ?_
    refine tw_sub [1, 2, 0] rfl ?_
    exact hk30 _ _ _ _ _ h
set_option maxRecDepth 100000 in
set_option maxHeartbeats 4000000 in
theorem wX8_restore_l30 (hO : tw_O p s m args meth c cX8_restore RX8 3 (some .int) G) : ∀ (n : Nat) (σ : tw_St) (a0 : Nat) (x1 : Int32) (x2 : Int32) (q : Int32 × tw_St), fX8_restore_l30 n σ a0 x1 x2 = some q → tw_X p l e rmX8_restore s m args below meth c 3 G σ 0 0 (tw_Q below args s G 0 0 (some (.int q.1)) q.2) 30 [(0, .ref a0), (1, .int x1), (2, .int x2)] [] := by
  intro n
  induction n with
  | zero => intro _ _ _ _ q h; cases (show (none : Option (Int32 × tw_St)) = some q from h)
  | succ n ih => intro _ _ _ _ q h; exact wX8_restore_h30 hO ih h
set_option maxRecDepth 100000 in
set_option maxHeartbeats 4000000 in
theorem mX8_restore (l : Launch) (G : tw_G) {σ : tw_St} {a : Nat} {x1 : Int32} {q : Int32 × tw_St} (h : fX8_restore σ a x1 = some q) : tw_M l G yX8_restore cX8_restore 3 (some .int) rmX8_restore 0 0 σ [.ref a, .int x1] (some (.int q.1)) q.2 := by
  unfold fX8_restore at h
  obtain ⟨_, -, h⟩ := tw_bd h
  refine tw_M.of (by decide +kernel) (Nat.le_of_ble_eq_true rfl) (fun p e s m args below meth c hnm hO => ?_)
  have hO : tw_O p s m args meth c cX8_restore RX8 3 (some .int) G := hO
  refine tw_iload_n 1 hO dX8_restore_0 rfl rfl ?_
  refine tw_iconst (v := 0) hO dX8_restore_1 (by decide) ?_
  refine tw_iconst (v := 1) hO dX8_restore_2 (by decide) ?_
  obtain ⟨v3, e3, h⟩ := tw_bd h
  refine tw_cSi hO (mX8_in l G e3) cfX8_in tw_w672 tw_w673 rfl rfl rfl rfl ⟨(Nat.le_of_ble_eq_true rfl), (Nat.le_of_ble_eq_true rfl)⟩ (Nat.le_of_ble_eq_true rfl) ⟨(Nat.le_of_ble_eq_true rfl), (Nat.le_of_ble_eq_true rfl)⟩ dX8_restore_3 ?_
  refine tw_if_ne (tgt := 12) hO dX8_restore_6 (by decide) (fun cc => ?_) (fun cc => ?_)
  · replace h := tw_ifn cc h
    refine tw_aload_n 0 hO dX8_restore_12 rfl rfl ?_
    obtain ⟨v13, e13, h⟩ := tw_bd h
    refine tw_getP hO dX8_restore_13 (t := 8) rfl 4 (by decide) rfl tw_w599 rfl e13 ?_
    refine tw_iload_n 1 hO dX8_restore_16 rfl rfl ?_
    obtain ⟨v17, e17, h⟩ := tw_bd h
    refine tw_zald hO dX8_restore_17 e17 ?_
    refine tw_if_ne (tgt := 24) hO dX8_restore_18 (by decide) (fun cc => ?_) (fun cc => ?_)
    · replace h := tw_ifn cc h
      refine tw_aload_n 0 hO dX8_restore_24 rfl rfl ?_
      obtain ⟨σ25, e25, h⟩ := tw_bd h
      refine tw_cVv hO (mX8_record l G e25) cfX8_record (t := 8) rfl (kX8_record e25) tw_w675 tw_w677 tw_w21 rfl rfl rfl rfl ⟨(Nat.le_of_ble_eq_true rfl), (Nat.le_of_ble_eq_true rfl)⟩ (Nat.le_of_ble_eq_true rfl) ⟨(Nat.le_of_ble_eq_true rfl), (Nat.le_of_ble_eq_true rfl)⟩ dX8_restore_25 ?_
      refine tw_iconst (v := 0) hO dX8_restore_28 (by decide) ?_
      refine tw_istore_n (lv' := [(2, .int 0), (0, .ref a), (1, .int x1)]) hO dX8_restore_29 rfl (by decide) rfl ?_
      refine tw_sub [1, 2, 0] rfl ?_
      exact wX8_restore_l30 hO _ _ _ _ _ _ h
    · replace h := tw_ifp cc h
      refine tw_bipush (v := (-5)) hO dX8_restore_21 (by decide) ?_
      exact tw_iret hO dX8_restore_23 h
  · replace h := tw_ifp cc h
    refine tw_bipush (v := (-2)) hO dX8_restore_9 (by decide) ?_
    exact tw_iret hO dX8_restore_11 h
end TW_05f_X8a
