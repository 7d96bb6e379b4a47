section TW_05e_X7
variable {p : Program} {l : Launch} {e : Env} {s : State} {m : MethodId} {args : Array Value} {below : List Frame} {meth : Method} {c : Code} {G : tw_G}
theorem cfX7_init : tw_CF yX7_init cX7_init 2 none 0 := ⟨tw_w63, tw_w48, by decide +kernel, by decide +kernel, by decide +kernel⟩
theorem kX7_init {σ : tw_St} {a : Nat} {q : tw_St} (h : fX7_init σ a = some q) : tw_is σ 7 a = some () := by
  unfold fX7_init at h
  obtain ⟨_, e1, -⟩ := tw_bd h
  exact e1
set_option maxRecDepth 100000 in
set_option maxHeartbeats 4000000 in
theorem mX7_init (l : Launch) (G : tw_G) {σ : tw_St} {a : Nat} {q : tw_St} (h : fX7_init σ a = some q) : tw_M l G yX7_init cX7_init 2 none rmX7_init 159 3105 σ [.ref a] none q := by
  unfold fX7_init at h
  obtain ⟨_, -, h⟩ := tw_bd h
  refine tw_M.of (by decide +kernel) (Nat.le_of_ble_eq_true rfl) (fun p e s m args below meth c hnm hO => ?_)
  have hO : tw_O p s m args meth c cX7_init RX7 2 none G := hO
  refine tw_aload_n 0 hO dX7_init_0 rfl rfl ?_
  refine tw_objI hO dX7_init_1 tw_w64 tw_w65 tw_w66 (Nat.le_of_ble_eq_true rfl) (Nat.le_of_ble_eq_true rfl) ?_
  refine tw_aload_n 0 hO dX7_init_4 rfl rfl ?_
  refine tw_newO hO dX7_init_5 (t := 6) rfl tw_w67 tw_w68 tw_w49 (Nat.le_of_ble_eq_true rfl) (Nat.le_of_ble_eq_true rfl) ?_
  refine tw_dup hO dX7_init_8 rfl ?_
  obtain ⟨σ9, e9, h⟩ := tw_bd h
  refine tw_callIN hO (mX6_init l G e9) cfX6_init rfl (tw_knN0 hO) tw_w70 rfl rfl rfl rfl ⟨(Nat.le_of_ble_eq_true rfl), (Nat.le_of_ble_eq_true rfl)⟩ (Nat.le_of_ble_eq_true rfl) ⟨(Nat.le_of_ble_eq_true rfl), (Nat.le_of_ble_eq_true rfl)⟩ dX7_init_9 ?_
  obtain ⟨σ12, e12, h⟩ := tw_bd h
  refine tw_putP hO hnm dX7_init_12 (t := 7) rfl 0 (by decide) rfl rfl tw_w243 rfl rfl ⟨rfl, rfl⟩ e12 ?_
  refine tw_aload_n 0 hO dX7_init_15 rfl rfl ?_
  refine tw_newO hO dX7_init_16 (t := 5) rfl tw_w109 tw_w110 tw_w51 (Nat.le_of_ble_eq_true rfl) (Nat.le_of_ble_eq_true rfl) ?_
  refine tw_dup hO dX7_init_19 rfl ?_
  refine tw_aload_n 0 hO dX7_init_20 rfl rfl ?_
  obtain ⟨v21, e21, h⟩ := tw_bd h
  refine tw_getP hO dX7_init_21 (t := 7) rfl 0 (by decide) rfl tw_w243 rfl e21 ?_
  obtain ⟨σ24, e24, h⟩ := tw_bd h
  refine tw_callI hO (mX5_init l G e24) cfX5_init rfl tw_w111 tw_w112 rfl rfl rfl rfl ⟨(Nat.le_of_ble_eq_true rfl), (Nat.le_of_ble_eq_true rfl)⟩ (Nat.le_of_ble_eq_true rfl) ⟨(Nat.le_of_ble_eq_true rfl), (Nat.le_of_ble_eq_true rfl)⟩ dX7_init_24 ?_
  obtain ⟨σ27, e27, h⟩ := tw_bd h
  refine tw_putP hO hnm dX7_init_27 (t := 7) rfl 1 (by decide) rfl rfl tw_w244 rfl rfl ⟨rfl, rfl⟩ e27 ?_
  refine tw_aload_n 0 hO dX7_init_30 rfl rfl ?_
  refine tw_newO hO dX7_init_31 (t := 6) rfl tw_w67 tw_w68 tw_w49 (Nat.le_of_ble_eq_true rfl) (Nat.le_of_ble_eq_true rfl) ?_
  refine tw_dup hO dX7_init_34 rfl ?_
  obtain ⟨σ35, e35, h⟩ := tw_bd h
  refine tw_callIN hO (mX6_init l G e35) cfX6_init rfl (tw_knN0 hO) tw_w70 rfl rfl rfl rfl ⟨(Nat.le_of_ble_eq_true rfl), (Nat.le_of_ble_eq_true rfl)⟩ (Nat.le_of_ble_eq_true rfl) ⟨(Nat.le_of_ble_eq_true rfl), (Nat.le_of_ble_eq_true rfl)⟩ dX7_init_35 ?_
  obtain ⟨σ38, e38, h⟩ := tw_bd h
  refine tw_putP hO hnm dX7_init_38 (t := 7) rfl 2 (by decide) rfl rfl tw_w245 rfl rfl ⟨rfl, rfl⟩ e38 ?_
  refine tw_aload_n 0 hO dX7_init_41 rfl rfl ?_
  refine tw_newO hO dX7_init_42 (t := 5) rfl tw_w109 tw_w110 tw_w51 (Nat.le_of_ble_eq_true rfl) (Nat.le_of_ble_eq_true rfl) ?_
  refine tw_dup hO dX7_init_45 rfl ?_
  refine tw_aload_n 0 hO dX7_init_46 rfl rfl ?_
  obtain ⟨v47, e47, h⟩ := tw_bd h
  refine tw_getP hO dX7_init_47 (t := 7) rfl 2 (by decide) rfl tw_w245 rfl e47 ?_
  obtain ⟨σ50, e50, h⟩ := tw_bd h
  refine tw_callI hO (mX5_init l G e50) cfX5_init rfl tw_w111 tw_w112 rfl rfl rfl rfl ⟨(Nat.le_of_ble_eq_true rfl), (Nat.le_of_ble_eq_true rfl)⟩ (Nat.le_of_ble_eq_true rfl) ⟨(Nat.le_of_ble_eq_true rfl), (Nat.le_of_ble_eq_true rfl)⟩ dX7_init_50 ?_
  obtain ⟨σ53, e53, h⟩ := tw_bd h
  refine tw_putP hO hnm dX7_init_53 (t := 7) rfl 3 (by decide) rfl rfl tw_w246 rfl rfl ⟨rfl, rfl⟩ e53 ?_
  refine tw_aload_n 0 hO dX7_init_56 rfl rfl ?_
  refine tw_newO hO dX7_init_57 (t := 1) rfl tw_w184 tw_w185 tw_w53 (Nat.le_of_ble_eq_true rfl) (Nat.le_of_ble_eq_true rfl) ?_
  refine tw_dup hO dX7_init_60 rfl ?_
  obtain ⟨σ61, e61, h⟩ := tw_bd h
  refine tw_callIN hO (mX1_init l G e61) cfX1_init rfl (tw_knN3 hO) tw_w187 rfl rfl rfl rfl ⟨(Nat.le_of_ble_eq_true rfl), (Nat.le_of_ble_eq_true rfl)⟩ (Nat.le_of_ble_eq_true rfl) ⟨(Nat.le_of_ble_eq_true rfl), (Nat.le_of_ble_eq_true rfl)⟩ dX7_init_61 ?_
  obtain ⟨σ64, e64, h⟩ := tw_bd h
  refine tw_putP hO hnm dX7_init_64 (t := 7) rfl 4 (by decide) rfl rfl tw_w247 rfl rfl ⟨rfl, rfl⟩ e64 ?_
  refine tw_aload_n 0 hO dX7_init_67 rfl rfl ?_
  refine tw_newO hO dX7_init_68 (t := 4) rfl tw_w200 tw_w201 tw_w54 (Nat.le_of_ble_eq_true rfl) (Nat.le_of_ble_eq_true rfl) ?_
  refine tw_dup hO dX7_init_71 rfl ?_
  refine tw_aload_n 0 hO dX7_init_72 rfl rfl ?_
  obtain ⟨v73, e73, h⟩ := tw_bd h
  refine tw_getP hO dX7_init_73 (t := 7) rfl 4 (by decide) rfl tw_w247 rfl e73 ?_
  obtain ⟨σ76, e76, h⟩ := tw_bd h
  refine tw_callI hO (mX4_init l G e76) cfX4_init rfl tw_w202 tw_w203 rfl rfl rfl rfl ⟨(Nat.le_of_ble_eq_true rfl), (Nat.le_of_ble_eq_true rfl)⟩ (Nat.le_of_ble_eq_true rfl) ⟨(Nat.le_of_ble_eq_true rfl), (Nat.le_of_ble_eq_true rfl)⟩ dX7_init_76 ?_
  obtain ⟨σ79, e79, h⟩ := tw_bd h
  refine tw_putP hO hnm dX7_init_79 (t := 7) rfl 5 (by decide) rfl rfl tw_w248 rfl rfl ⟨rfl, rfl⟩ e79 ?_
  refine tw_aload_n 0 hO dX7_init_82 rfl rfl ?_
  refine tw_newO hO dX7_init_83 (t := 0) rfl tw_w223 tw_w224 tw_w55 (Nat.le_of_ble_eq_true rfl) (Nat.le_of_ble_eq_true rfl) ?_
  refine tw_dup hO dX7_init_86 rfl ?_
  obtain ⟨σ87, e87, h⟩ := tw_bd h
  refine tw_callI hO (mX0_init l G e87) cfX0_init rfl tw_w225 tw_w226 rfl rfl rfl rfl ⟨(Nat.le_of_ble_eq_true rfl), (Nat.le_of_ble_eq_true rfl)⟩ (Nat.le_of_ble_eq_true rfl) ⟨(Nat.le_of_ble_eq_true rfl), (Nat.le_of_ble_eq_true rfl)⟩ dX7_init_87 ?_
  obtain ⟨σ90, e90, h⟩ := tw_bd h
  refine tw_putP hO hnm dX7_init_90 (t := 7) rfl 6 (by decide) rfl rfl tw_w249 rfl rfl ⟨rfl, rfl⟩ e90 ?_
  refine tw_aload_n 0 hO dX7_init_93 rfl rfl ?_
  refine tw_iconst (v := 2) hO dX7_init_94 (by decide) ?_
  refine tw_newR (t := 24) (C := RX6) (N := 2) hO dX7_init_95 ⟨by decide, by decide⟩ rfl tw_w67 (tw_knA24 hO) (by decide) (by decide) (Nat.le_of_ble_eq_true rfl) (Nat.le_of_ble_eq_true rfl) (Nat.le_of_ble_eq_true rfl) ?_
  obtain ⟨σ98, e98, h⟩ := tw_bd h
  refine tw_putP hO hnm dX7_init_98 (t := 7) rfl 7 (by decide) rfl rfl tw_w250 rfl rfl ⟨rfl, rfl⟩ e98 ?_
  refine tw_iconst (v := 0) hO dX7_init_101 (by decide) ?_
  refine tw_istore_n (lv' := [(1, .int 0), (0, .ref a)]) hO dX7_init_102 rfl (by decide) rfl ?_
  refine tw_iload_n 0 hO dX7_init_103 rfl rfl ?_
  refine tw_iconst (v := 2) hO dX7_init_104 (by decide) ?_
  refine tw_icmp_ge (tgt := 127) hO dX7_init_105 (by decide) (fun cc => absurd cc (by decide)) (fun _ => ?_)
  refine tw_aload_n 1 hO dX7_init_108 rfl rfl ?_
  obtain ⟨v109, e109, h⟩ := tw_bd h
  refine tw_getP hO dX7_init_109 (t := 7) rfl 7 (by decide) rfl tw_w250 rfl e109 ?_
  refine tw_iload_n 0 hO dX7_init_112 rfl rfl ?_
  refine tw_newO hO dX7_init_113 (t := 6) rfl tw_w67 tw_w68 tw_w49 (Nat.le_of_ble_eq_true rfl) (Nat.le_of_ble_eq_true rfl) ?_
  refine tw_dup hO dX7_init_116 rfl ?_
  obtain ⟨σ117, e117, h⟩ := tw_bd h
  refine tw_callIN hO (mX6_init l G e117) cfX6_init rfl (tw_knN0 hO) tw_w70 rfl rfl rfl rfl ⟨(Nat.le_of_ble_eq_true rfl), (Nat.le_of_ble_eq_true rfl)⟩ (Nat.le_of_ble_eq_true rfl) ⟨(Nat.le_of_ble_eq_true rfl), (Nat.le_of_ble_eq_true rfl)⟩ dX7_init_117 ?_
  obtain ⟨σ120, e120, h⟩ := tw_bd h
  refine tw_aast (tv := 6) hO dX7_init_120 (by decide) (by decide) rfl rfl e120 ?_
  refine tw_iinc (q := 0) (v := 1) (lv' := [(1, .int 1), (0, .ref a)]) hO dX7_init_121 rfl (by decide) (by decide) rfl ?_
  refine tw_goto (tgt := 103) hO dX7_init_124 (by decide) ?_
  refine tw_iload_n 0 hO dX7_init_103 rfl rfl ?_
  refine tw_iconst (v := 2) hO dX7_init_104 (by decide) ?_
  refine tw_icmp_ge (tgt := 127) hO dX7_init_105 (by decide) (fun cc => absurd cc (by decide)) (fun _ => ?_)
  refine tw_aload_n 1 hO dX7_init_108 rfl rfl ?_
  obtain ⟨v109, e109, h⟩ := tw_bd h
  refine tw_getP hO dX7_init_109 (t := 7) rfl 7 (by decide) rfl tw_w250 rfl e109 ?_
  refine tw_iload_n 0 hO dX7_init_112 rfl rfl ?_
  refine tw_newO hO dX7_init_113 (t := 6) rfl tw_w67 tw_w68 tw_w49 (Nat.le_of_ble_eq_true rfl) (Nat.le_of_ble_eq_true rfl) ?_
  refine tw_dup hO dX7_init_116 rfl ?_
  obtain ⟨σ117, e117, h⟩ := tw_bd h
  refine tw_callIN hO (mX6_init l G e117) cfX6_init rfl (tw_knN0 hO) tw_w70 rfl rfl rfl rfl ⟨(Nat.le_of_ble_eq_true rfl), (Nat.le_of_ble_eq_true rfl)⟩ (Nat.le_of_ble_eq_true rfl) ⟨(Nat.le_of_ble_eq_true rfl), (Nat.le_of_ble_eq_true rfl)⟩ dX7_init_117 ?_
  obtain ⟨σ120, e120, h⟩ := tw_bd h
  refine tw_aast (tv := 6) hO dX7_init_120 (by decide) (by decide) rfl rfl e120 ?_
  refine tw_iinc (q := 0) (v := 2) (lv' := [(1, .int 2), (0, .ref a)]) hO dX7_init_121 rfl (by decide) (by decide) rfl ?_
  refine tw_goto (tgt := 103) hO dX7_init_124 (by decide) ?_
  refine tw_iload_n 0 hO dX7_init_103 rfl rfl ?_
  refine tw_iconst (v := 2) hO dX7_init_104 (by decide) ?_
  refine tw_icmp_ge (tgt := 127) hO dX7_init_105 (by decide) (fun _ => ?_) (fun cc => absurd cc (by decide))
  refine tw_aload_n 1 hO dX7_init_127 rfl rfl ?_
  refine tw_iconst (v := 2) hO dX7_init_128 (by decide) ?_
  refine tw_newA (t := 22) (N := 2) hO dX7_init_129 ⟨by decide, by decide⟩ rfl tw_w271 (by decide) (by decide) (Nat.le_of_ble_eq_true rfl) (Nat.le_of_ble_eq_true rfl) (Nat.le_of_ble_eq_true rfl) ?_
  obtain ⟨σ131, e131, h⟩ := tw_bd h
  refine tw_putP hO hnm dX7_init_131 (t := 7) rfl 8 (by decide) rfl rfl tw_w251 rfl rfl ⟨rfl, rfl⟩ e131 ?_
  refine tw_wide (Nat.le_of_ble_eq_true rfl : _ ≤ 159) (Nat.le_of_ble_eq_true rfl : _ ≤ 3105) ?_
  exact tw_vret hO dX7_init_134 h
theorem cfX7_set : tw_CF yX7_set cX7_set 4 (some .int) 2 := ⟨tw_w275, tw_w48, by decide +kernel, by decide +kernel, by decide +kernel⟩
theorem kX7_set {σ : tw_St} {a : Nat} {x1 : Int32} {x2 : Int32} {q : Int32 × tw_St} (h : fX7_set σ a x1 x2 = some q) : tw_is σ 7 a = some () := by
  unfold fX7_set at h
  obtain ⟨_, e1, -⟩ := tw_bd h
  exact e1
set_option maxRecDepth 100000 in
set_option maxHeartbeats 4000000 in
theorem mX7_set (l : Launch) (G : tw_G) {σ : tw_St} {a : Nat} {x1 : Int32} {x2 : Int32} {q : Int32 × tw_St} (h : fX7_set σ a x1 x2 = some q) : tw_M l G yX7_set cX7_set 4 (some .int) rmX7_set 0 0 σ [.ref a, .int x1, .int x2] (some (.int q.1)) q.2 := by
  unfold fX7_set at h
  obtain ⟨_, -, h⟩ := tw_bd h
  refine tw_M.of (by decide +kernel) (Nat.le_of_ble_eq_true rfl) (fun p e s m args below meth c hnm hO => ?_)
  have hO : tw_O p s m args meth c cX7_set RX7 4 (some .int) G := hO
  refine tw_iload_n 1 hO dX7_set_0 rfl rfl ?_
  refine tw_if_lt (tgt := 27) hO dX7_set_1 (by decide) (fun cc => ?_) (fun cc => ?_)
  · replace h := tw_ifp cc h
    refine tw_bipush (v := (-2)) hO dX7_set_27 (by decide) ?_
    exact tw_iret hO dX7_set_29 h
  · replace h := tw_ifn cc h
    refine tw_iload_n 1 hO dX7_set_4 rfl rfl ?_
    refine tw_iconst (v := 3) hO dX7_set_5 (by decide) ?_
    refine tw_icmp_ge (tgt := 27) hO dX7_set_6 (by decide) (fun cc => ?_) (fun cc => ?_)
    · replace h := tw_ifp cc h
      refine tw_bipush (v := (-2)) hO dX7_set_27 (by decide) ?_
      exact tw_iret hO dX7_set_29 h
    · replace h := tw_ifn cc h
      refine tw_iload_n 2 hO dX7_set_9 rfl rfl ?_
      refine tw_gsL hO dX7_set_10 tw_w276 ?_
      refine tw_iload_n 1 hO dX7_set_13 rfl rfl ?_
      obtain ⟨v14, e14, h⟩ := tw_bd h
      refine tw_ldL hO dX7_set_14 e14 ?_
      refine tw_icmp_lt (tgt := 27) hO dX7_set_15 (by decide) (fun cc => ?_) (fun cc => ?_)
      · replace h := tw_ifp cc h
        refine tw_bipush (v := (-2)) hO dX7_set_27 (by decide) ?_
        exact tw_iret hO dX7_set_29 h
      · replace h := tw_ifn cc h
        refine tw_iload_n 2 hO dX7_set_18 rfl rfl ?_
        refine tw_gsH hO dX7_set_19 tw_w278 ?_
        refine tw_iload_n 1 hO dX7_set_22 rfl rfl ?_
        obtain ⟨v23, e23, h⟩ := tw_bd h
        refine tw_ldH hO dX7_set_23 e23 ?_
        refine tw_icmp_le (tgt := 30) hO dX7_set_24 (by decide) (fun cc => ?_) (fun cc => ?_)
        · replace h := tw_ifp cc h
          refine tw_aload_n 0 hO dX7_set_30 rfl rfl ?_
          obtain ⟨v31, e31, h⟩ := tw_bd h
          refine tw_getP hO dX7_set_31 (t := 7) rfl 0 (by decide) rfl tw_w243 rfl e31 ?_
          obtain ⟨v34, e34, h⟩ := tw_bd h
          refine tw_getP hO dX7_set_34 (t := 6) rfl 0 (by decide) rfl tw_w94 rfl e34 ?_
          refine tw_iload_n 1 hO dX7_set_37 rfl rfl ?_
          obtain ⟨v38, e38, h⟩ := tw_bd h
          refine tw_iald hO dX7_set_38 e38 ?_
          refine tw_istore_n (lv' := [(3, .int v38), (0, .ref a), (1, .int x1), (2, .int x2)]) hO dX7_set_39 rfl (by decide) rfl ?_
          refine tw_aload_n 1 hO dX7_set_40 rfl rfl ?_
          obtain ⟨v41, e41, h⟩ := tw_bd h
          refine tw_getP hO dX7_set_41 (t := 7) rfl 6 (by decide) rfl tw_w249 rfl e41 ?_
          refine tw_aload_n 1 hO dX7_set_44 rfl rfl ?_
          obtain ⟨v45, e45, h⟩ := tw_bd h
          refine tw_getP hO dX7_set_45 (t := 7) rfl 0 (by decide) rfl tw_w243 rfl e45 ?_
          obtain ⟨σ48, e48, h⟩ := tw_bd h
          refine tw_cVv hO (mX0_record l G e48) cfX0_record (t := 0) rfl (kX0_record e48) tw_w280 tw_w281 tw_w282 rfl rfl rfl rfl ⟨(Nat.le_of_ble_eq_true rfl), (Nat.le_of_ble_eq_true rfl)⟩ (Nat.le_of_ble_eq_true rfl) ⟨(Nat.le_of_ble_eq_true rfl), (Nat.le_of_ble_eq_true rfl)⟩ dX7_set_48 ?_
          refine tw_aload_n 1 hO dX7_set_51 rfl rfl ?_
          obtain ⟨v52, e52, h⟩ := tw_bd h
          refine tw_getP hO dX7_set_52 (t := 7) rfl 0 (by decide) rfl tw_w243 rfl e52 ?_
          obtain ⟨v55, e55, h⟩ := tw_bd h
          refine tw_getP hO dX7_set_55 (t := 6) rfl 0 (by decide) rfl tw_w94 rfl e55 ?_
          refine tw_iload_n 2 hO dX7_set_58 rfl rfl ?_
          refine tw_iload_n 3 hO dX7_set_59 rfl rfl ?_
          obtain ⟨σ60, e60, h⟩ := tw_bd h
          refine tw_iast hO dX7_set_60 e60 ?_
          refine tw_aload_n 1 hO dX7_set_61 rfl rfl ?_
          obtain ⟨v62, e62, h⟩ := tw_bd h
          refine tw_getP hO dX7_set_62 (t := 7) rfl 1 (by decide) rfl tw_w244 rfl e62 ?_
          refine tw_bipush (v := (-6)) hO dX7_set_65 (by decide) ?_
          obtain ⟨σ67, e67, h⟩ := tw_bd h
          refine tw_cVv hO (mX5_play l G e67) cfX5_play (t := 5) rfl (kX5_play e67) tw_w296 tw_w297 tw_w298 rfl rfl rfl rfl ⟨(Nat.le_of_ble_eq_true rfl), (Nat.le_of_ble_eq_true rfl)⟩ (Nat.le_of_ble_eq_true rfl) ⟨(Nat.le_of_ble_eq_true rfl), (Nat.le_of_ble_eq_true rfl)⟩ dX7_set_67 ?_
          refine tw_iload_n 0 hO dX7_set_70 rfl rfl ?_
          exact tw_iret hO dX7_set_71 h
        · replace h := tw_ifn cc h
          refine tw_bipush (v := (-2)) hO dX7_set_27 (by decide) ?_
          exact tw_iret hO dX7_set_29 h
theorem cfX7_put : tw_CF yX7_put cX7_put 4 (some .int) 1 := ⟨tw_w388, tw_w48, by decide +kernel, by decide +kernel, by decide +kernel⟩
theorem kX7_put {σ : tw_St} {a : Nat} {y1 : Int64} {q : Int32 × tw_St} (h : fX7_put σ a y1 = some q) : tw_is σ 7 a = some () := by
  unfold fX7_put at h
  obtain ⟨_, e1, -⟩ := tw_bd h
  exact e1
set_option maxRecDepth 100000 in
set_option maxHeartbeats 4000000 in
theorem mX7_put (l : Launch) (G : tw_G) {σ : tw_St} {a : Nat} {y1 : Int64} {q : Int32 × tw_St} (h : fX7_put σ a y1 = some q) : tw_M l G yX7_put cX7_put 4 (some .int) rmX7_put 0 0 σ [.ref a, .long y1] (some (.int q.1)) q.2 := by
  unfold fX7_put at h
  obtain ⟨_, -, h⟩ := tw_bd h
  refine tw_M.of (by decide +kernel) (Nat.le_of_ble_eq_true rfl) (fun p e s m args below meth c hnm hO => ?_)
  have hO : tw_O p s m args meth c cX7_put RX7 4 (some .int) G := hO
  refine tw_lload_n 1 hO dX7_put_0 rfl rfl ?_
  obtain ⟨v1, e1, h⟩ := tw_bd h
  refine tw_cSi hO (mX1_charactersIn l G e1) cfX1_charactersIn tw_w389 tw_w390 rfl rfl rfl rfl ⟨(Nat.le_of_ble_eq_true rfl), (Nat.le_of_ble_eq_true rfl)⟩ (Nat.le_of_ble_eq_true rfl) ⟨(Nat.le_of_ble_eq_true rfl), (Nat.le_of_ble_eq_true rfl)⟩ dX7_put_1 ?_
  refine tw_istore_n (lv' := [(3, .int v1), (0, .ref a), (1, .long y1)]) hO dX7_put_4 rfl (by decide) rfl ?_
  refine tw_iload_n 0 hO dX7_put_5 rfl rfl ?_
  refine tw_if_ne (tgt := 12) hO dX7_put_6 (by decide) (fun cc => ?_) (fun cc => ?_)
  · replace h := tw_ifn cc h
    refine tw_aload_n 1 hO dX7_put_12 rfl rfl ?_
    obtain ⟨v13, e13, h⟩ := tw_bd h
    refine tw_getP hO dX7_put_13 (t := 7) rfl 4 (by decide) rfl tw_w247 rfl e13 ?_
    obtain ⟨v16, e16, h⟩ := tw_bd h
    refine tw_getI hO dX7_put_16 (t := 1) rfl 0 (by decide) rfl tw_w192 rfl e16 ?_
    refine tw_iload_n 0 hO dX7_put_19 rfl rfl ?_
    refine tw_iadd hO dX7_put_20 ?_
    refine tw_bipush (v := 80) hO dX7_put_21 (by decide) ?_
    refine tw_icmp_le (tgt := 29) hO dX7_put_23 (by decide) (fun cc => ?_) (fun cc => ?_)
    · replace h := tw_ifp cc h
      refine tw_aload_n 1 hO dX7_put_29 rfl rfl ?_
      obtain ⟨v30, e30, h⟩ := tw_bd h
      refine tw_getP hO dX7_put_30 (t := 7) rfl 4 (by decide) rfl tw_w247 rfl e30 ?_
      refine tw_lload_n 2 hO dX7_put_33 rfl rfl ?_
      refine tw_iload_n 0 hO dX7_put_34 rfl rfl ?_
      obtain ⟨σ35, e35, h⟩ := tw_bd h
      refine tw_cVv hO (mX1_append l G e35) cfX1_append (t := 1) rfl (kX1_append e35) tw_w395 tw_w396 tw_w397 rfl rfl rfl rfl ⟨(Nat.le_of_ble_eq_true rfl), (Nat.le_of_ble_eq_true rfl)⟩ (Nat.le_of_ble_eq_true rfl) ⟨(Nat.le_of_ble_eq_true rfl), (Nat.le_of_ble_eq_true rfl)⟩ dX7_put_35 ?_
      refine tw_aload_n 1 hO dX7_put_38 rfl rfl ?_
      obtain ⟨v39, e39, h⟩ := tw_bd h
      refine tw_getP hO dX7_put_39 (t := 7) rfl 4 (by decide) rfl tw_w247 rfl e39 ?_
      obtain ⟨v42, e42, h⟩ := tw_bd h
      refine tw_getI hO dX7_put_42 (t := 1) rfl 0 (by decide) rfl tw_w192 rfl e42 ?_
      exact tw_iret hO dX7_put_45 h
    · replace h := tw_ifn cc h
      refine tw_bipush (v := (-4)) hO dX7_put_26 (by decide) ?_
      exact tw_iret hO dX7_put_28 h
  · replace h := tw_ifp cc h
    refine tw_bipush (v := (-2)) hO dX7_put_9 (by decide) ?_
    exact tw_iret hO dX7_put_11 h
theorem cfX7_wipe : tw_CF yX7_wipe cX7_wipe 2 (some .int) 0 := ⟨tw_w402, tw_w48, by decide +kernel, by decide +kernel, by decide +kernel⟩
theorem kX7_wipe {σ : tw_St} {a : Nat} {q : Int32 × tw_St} (h : fX7_wipe σ a = some q) : tw_is σ 7 a = some () := by
  unfold fX7_wipe at h
  obtain ⟨_, e1, -⟩ := tw_bd h
  exact e1
set_option maxRecDepth 100000 in
set_option maxHeartbeats 4000000 in
theorem mX7_wipe (l : Launch) (G : tw_G) {σ : tw_St} {a : Nat} {q : Int32 × tw_St} (h : fX7_wipe σ a = some q) : tw_M l G yX7_wipe cX7_wipe 2 (some .int) rmX7_wipe 0 0 σ [.ref a] (some (.int q.1)) q.2 := by
  unfold fX7_wipe at h
  obtain ⟨_, -, h⟩ := tw_bd h
  refine tw_M.of (by decide +kernel) (Nat.le_of_ble_eq_true rfl) (fun p e s m args below meth c hnm hO => ?_)
  have hO : tw_O p s m args meth c cX7_wipe RX7 2 (some .int) G := hO
  refine tw_aload_n 0 hO dX7_wipe_0 rfl rfl ?_
  obtain ⟨v1, e1, h⟩ := tw_bd h
  refine tw_getP hO dX7_wipe_1 (t := 7) rfl 4 (by decide) rfl tw_w247 rfl e1 ?_
  obtain ⟨v4, e4, h⟩ := tw_bd h
  refine tw_getI hO dX7_wipe_4 (t := 1) rfl 0 (by decide) rfl tw_w192 rfl e4 ?_
  refine tw_istore_n (lv' := [(1, .int v4), (0, .ref a)]) hO dX7_wipe_7 rfl (by decide) rfl ?_
  refine tw_aload_n 1 hO dX7_wipe_8 rfl rfl ?_
  obtain ⟨v9, e9, h⟩ := tw_bd h
  refine tw_getP hO dX7_wipe_9 (t := 7) rfl 4 (by decide) rfl tw_w247 rfl e9 ?_
  refine tw_iconst (v := 0) hO dX7_wipe_12 (by decide) ?_
  obtain ⟨σ13, e13, h⟩ := tw_bd h
  refine tw_putI hO dX7_wipe_13 (t := 1) rfl 0 (by decide) rfl tw_w192 rfl rfl ⟨rfl, rfl⟩ e13 ?_
  refine tw_iload_n 0 hO dX7_wipe_16 rfl rfl ?_
  exact tw_iret hO dX7_wipe_17 h
theorem cfX7_fault : tw_CF yX7_fault cX7_fault 1 (some .int) 0 := ⟨tw_w406, tw_w48, by decide +kernel, by decide +kernel, by decide +kernel⟩
theorem kX7_fault {σ : tw_St} {a : Nat} {q : Int32 × tw_St} (h : fX7_fault σ a = some q) : tw_is σ 7 a = some () := by
  unfold fX7_fault at h
  obtain ⟨_, e1, -⟩ := tw_bd h
  exact e1
set_option maxRecDepth 100000 in
set_option maxHeartbeats 4000000 in
theorem mX7_fault (l : Launch) (G : tw_G) {σ : tw_St} {a : Nat} {q : Int32 × tw_St} (h : fX7_fault σ a = some q) : tw_M l G yX7_fault cX7_fault 1 (some .int) rmX7_fault 0 0 σ [.ref a] (some (.int q.1)) q.2 := by
  unfold fX7_fault at h
  obtain ⟨_, -, h⟩ := tw_bd h
  refine tw_M.of (by decide +kernel) (Nat.le_of_ble_eq_true rfl) (fun p e s m args below meth c hnm hO => ?_)
  have hO : tw_O p s m args meth c cX7_fault RX7 1 (some .int) G := hO
  refine tw_aload_n 0 hO dX7_fault_0 rfl rfl ?_
  obtain ⟨v1, e1, h⟩ := tw_bd h
  refine tw_getP hO dX7_fault_1 (t := 7) rfl 5 (by decide) rfl tw_w248 rfl e1 ?_
  obtain ⟨q4, e4, h⟩ := tw_bd h
  refine tw_cVi hO (mX4_read l G e4) cfX4_read (t := 4) rfl (kX4_read e4) tw_w407 tw_w408 tw_w409 rfl rfl rfl rfl ⟨(Nat.le_of_ble_eq_true rfl), (Nat.le_of_ble_eq_true rfl)⟩ (Nat.le_of_ble_eq_true rfl) ⟨(Nat.le_of_ble_eq_true rfl), (Nat.le_of_ble_eq_true rfl)⟩ dX7_fault_4 ?_
  exact tw_iret hO dX7_fault_7 h
theorem cfX7_isThread : tw_CF yX7_isThread cX7_isThread 1 (some .boolean) 1 := ⟨tw_w461, tw_w48, by decide +kernel, by decide +kernel, by decide +kernel⟩
set_option maxRecDepth 100000 in
set_option maxHeartbeats 4000000 in
theorem mX7_isThread (l : Launch) (G : tw_G) {σ : tw_St} {x0 : Int32} {q : Int32} (h : fX7_isThread σ x0 = some q) : tw_M l G yX7_isThread cX7_isThread 1 (some .boolean) rmX7_isThread 0 0 σ [.int x0] (some (.int q)) σ := by
  unfold fX7_isThread at h
  refine tw_M.of (by decide +kernel) (Nat.le_of_ble_eq_true rfl) (fun p e s m args below meth c hnm hO => ?_)
  have hO : tw_O p s m args meth c cX7_isThread RX7 1 (some .boolean) G := hO
  refine tw_iload_n 0 hO dX7_isThread_0 rfl rfl ?_
  refine tw_if_lt (tgt := 13) hO dX7_isThread_1 (by decide) (fun cc => ?_) (fun cc => ?_)
  · replace h := tw_ifp cc h
    refine tw_iconst (v := 0) hO dX7_isThread_13 (by decide) ?_
    exact tw_zretR hO rfl dX7_isThread_14 h
  · replace h := tw_ifn cc h
    refine tw_iload_n 0 hO dX7_isThread_4 rfl rfl ?_
    refine tw_iconst (v := 2) hO dX7_isThread_5 (by decide) ?_
    refine tw_icmp_ge (tgt := 13) hO dX7_isThread_6 (by decide) (fun cc => ?_) (fun cc => ?_)
    · replace h := tw_ifp cc h
      refine tw_iconst (v := 0) hO dX7_isThread_13 (by decide) ?_
      exact tw_zretR hO rfl dX7_isThread_14 h
    · replace h := tw_ifn cc h
      refine tw_iconst (v := 1) hO dX7_isThread_9 (by decide) ?_
      refine tw_goto (tgt := 14) hO dX7_isThread_10 (by decide) ?_
      exact tw_zretR hO rfl dX7_isThread_14 h
theorem cfX7_program : tw_CF yX7_program cX7_program 2 (some .int) 1 := ⟨tw_w458, tw_w48, by decide +kernel, by decide +kernel, by decide +kernel⟩
theorem kX7_program {σ : tw_St} {a : Nat} {x1 : Int32} {q : Int32 × tw_St} (h : fX7_program σ a x1 = some q) : tw_is σ 7 a = some () := by
  unfold fX7_program at h
  obtain ⟨_, e1, -⟩ := tw_bd h
  exact e1
set_option maxRecDepth 100000 in
set_option maxHeartbeats 4000000 in
theorem mX7_program (l : Launch) (G : tw_G) {σ : tw_St} {a : Nat} {x1 : Int32} {q : Int32 × tw_St} (h : fX7_program σ a x1 = some q) : tw_M l G yX7_program cX7_program 2 (some .int) rmX7_program 0 0 σ [.ref a, .int x1] (some (.int q.1)) q.2 := by
  unfold fX7_program at h
  obtain ⟨_, -, h⟩ := tw_bd h
  refine tw_M.of (by decide +kernel) (Nat.le_of_ble_eq_true rfl) (fun p e s m args below meth c hnm hO => ?_)
  have hO : tw_O p s m args meth c cX7_program RX7 2 (some .int) G := hO
  refine tw_iload_n 1 hO dX7_program_0 rfl rfl ?_
  obtain ⟨v1, e1, h⟩ := tw_bd h
  refine tw_cSi hO (mX7_isThread l G e1) cfX7_isThread tw_w459 tw_w460 rfl rfl rfl rfl ⟨(Nat.le_of_ble_eq_true rfl), (Nat.le_of_ble_eq_true rfl)⟩ (Nat.le_of_ble_eq_true rfl) ⟨(Nat.le_of_ble_eq_true rfl), (Nat.le_of_ble_eq_true rfl)⟩ dX7_program_1 ?_
  refine tw_if_ne (tgt := 9) hO dX7_program_4 (by decide) (fun cc => ?_) (fun cc => ?_)
  · replace h := tw_ifn cc h
    refine tw_aload_n 0 hO dX7_program_9 rfl rfl ?_
    obtain ⟨v10, e10, h⟩ := tw_bd h
    refine tw_getP hO dX7_program_10 (t := 7) rfl 5 (by decide) rfl tw_w248 rfl e10 ?_
    obtain ⟨q13, e13, h⟩ := tw_bd h
    refine tw_cVi hO (mX4_read l G e13) cfX4_read (t := 4) rfl (kX4_read e13) tw_w407 tw_w408 tw_w409 rfl rfl rfl rfl ⟨(Nat.le_of_ble_eq_true rfl), (Nat.le_of_ble_eq_true rfl)⟩ (Nat.le_of_ble_eq_true rfl) ⟨(Nat.le_of_ble_eq_true rfl), (Nat.le_of_ble_eq_true rfl)⟩ dX7_program_13 ?_
    refine tw_bipush (v := (-6)) hO dX7_program_16 (by decide) ?_
    refine tw_icmp_eq (tgt := 24) hO dX7_program_18 (by decide) (fun cc => ?_) (fun cc => ?_)
    · replace h := tw_ifp cc h
      refine tw_aload_n 0 hO dX7_program_24 rfl rfl ?_
      obtain ⟨v25, e25, h⟩ := tw_bd h
      refine tw_getP hO dX7_program_25 (t := 7) rfl 5 (by decide) rfl tw_w248 rfl e25 ?_
      obtain ⟨v28, e28, h⟩ := tw_bd h
      refine tw_getI hO dX7_program_28 (t := 4) rfl 1 (by decide) rfl tw_w211 rfl e28 ?_
      refine tw_bipush (v := 12) hO dX7_program_31 (by decide) ?_
      refine tw_icmp_le (tgt := 39) hO dX7_program_33 (by decide) (fun cc => ?_) (fun cc => ?_)
      · replace h := tw_ifp cc h
        refine tw_aload_n 0 hO dX7_program_39 rfl rfl ?_
        obtain ⟨v40, e40, h⟩ := tw_bd h
        refine tw_getP hO dX7_program_40 (t := 7) rfl 6 (by decide) rfl tw_w249 rfl e40 ?_
        refine tw_aload_n 0 hO dX7_program_43 rfl rfl ?_
        obtain ⟨v44, e44, h⟩ := tw_bd h
        refine tw_getP hO dX7_program_44 (t := 7) rfl 0 (by decide) rfl tw_w243 rfl e44 ?_
        obtain ⟨σ47, e47, h⟩ := tw_bd h
        refine tw_cVv hO (mX0_record l G e47) cfX0_record (t := 0) rfl (kX0_record e47) tw_w280 tw_w281 tw_w282 rfl rfl rfl rfl ⟨(Nat.le_of_ble_eq_true rfl), (Nat.le_of_ble_eq_true rfl)⟩ (Nat.le_of_ble_eq_true rfl) ⟨(Nat.le_of_ble_eq_true rfl), (Nat.le_of_ble_eq_true rfl)⟩ dX7_program_47 ?_
        refine tw_aload_n 0 hO dX7_program_50 rfl rfl ?_
        obtain ⟨v51, e51, h⟩ := tw_bd h
        refine tw_getP hO dX7_program_51 (t := 7) rfl 0 (by decide) rfl tw_w243 rfl e51 ?_
        obtain ⟨v54, e54, h⟩ := tw_bd h
        refine tw_getP hO dX7_program_54 (t := 6) rfl 1 (by decide) rfl tw_w98 rfl e54 ?_
        refine tw_iload_n 1 hO dX7_program_57 rfl rfl ?_
        obtain ⟨v58, e58, h⟩ := tw_bd h
        refine tw_aald hO dX7_program_58 (by decide) (by decide) e58 ?_
        refine tw_aload_n 0 hO dX7_program_59 rfl rfl ?_
        obtain ⟨v60, e60, h⟩ := tw_bd h
        refine tw_getP hO dX7_program_60 (t := 7) rfl 5 (by decide) rfl tw_w248 rfl e60 ?_
        obtain ⟨v63, e63, h⟩ := tw_bd h
        refine tw_getP hO dX7_program_63 (t := 4) rfl 0 (by decide) rfl tw_w209 rfl e63 ?_
        obtain ⟨σ66, e66, h⟩ := tw_bd h
        refine tw_cVv hO (mX3_copyFrom l G e66) cfX3_copyFrom (t := 3) rfl (kX3_copyFrom e66) tw_w462 tw_w292 tw_w293 rfl rfl rfl rfl ⟨(Nat.le_of_ble_eq_true rfl), (Nat.le_of_ble_eq_true rfl)⟩ (Nat.le_of_ble_eq_true rfl) ⟨(Nat.le_of_ble_eq_true rfl), (Nat.le_of_ble_eq_true rfl)⟩ dX7_program_66 ?_
        refine tw_aload_n 0 hO dX7_program_69 rfl rfl ?_
        obtain ⟨v70, e70, h⟩ := tw_bd h
        refine tw_getP hO dX7_program_70 (t := 7) rfl 4 (by decide) rfl tw_w247 rfl e70 ?_
        refine tw_iconst (v := 0) hO dX7_program_73 (by decide) ?_
        obtain ⟨σ74, e74, h⟩ := tw_bd h
        refine tw_putI hO dX7_program_74 (t := 1) rfl 0 (by decide) rfl tw_w192 rfl rfl ⟨rfl, rfl⟩ e74 ?_
        refine tw_aload_n 0 hO dX7_program_77 rfl rfl ?_
        obtain ⟨v78, e78, h⟩ := tw_bd h
        refine tw_getP hO dX7_program_78 (t := 7) rfl 1 (by decide) rfl tw_w244 rfl e78 ?_
        refine tw_bipush (v := (-6)) hO dX7_program_81 (by decide) ?_
        obtain ⟨σ83, e83, h⟩ := tw_bd h
        refine tw_cVv hO (mX5_play l G e83) cfX5_play (t := 5) rfl (kX5_play e83) tw_w296 tw_w297 tw_w298 rfl rfl rfl rfl ⟨(Nat.le_of_ble_eq_true rfl), (Nat.le_of_ble_eq_true rfl)⟩ (Nat.le_of_ble_eq_true rfl) ⟨(Nat.le_of_ble_eq_true rfl), (Nat.le_of_ble_eq_true rfl)⟩ dX7_program_83 ?_
        refine tw_aload_n 0 hO dX7_program_86 rfl rfl ?_
        obtain ⟨v87, e87, h⟩ := tw_bd h
        refine tw_getP hO dX7_program_87 (t := 7) rfl 0 (by decide) rfl tw_w243 rfl e87 ?_
        obtain ⟨v90, e90, h⟩ := tw_bd h
        refine tw_getP hO dX7_program_90 (t := 6) rfl 1 (by decide) rfl tw_w98 rfl e90 ?_
        refine tw_iload_n 1 hO dX7_program_93 rfl rfl ?_
        obtain ⟨v94, e94, h⟩ := tw_bd h
        refine tw_aald hO dX7_program_94 (by decide) (by decide) e94 ?_
        obtain ⟨v95, e95, h⟩ := tw_bd h
        refine tw_getI hO dX7_program_95 (t := 3) rfl 0 (by decide) rfl tw_w83 rfl e95 ?_
        exact tw_iret hO dX7_program_98 h
      · replace h := tw_ifn cc h
        refine tw_bipush (v := (-4)) hO dX7_program_36 (by decide) ?_
        exact tw_iret hO dX7_program_38 h
    · replace h := tw_ifn cc h
      refine tw_bipush (v := (-3)) hO dX7_program_21 (by decide) ?_
      exact tw_iret hO dX7_program_23 h
  · replace h := tw_ifp cc h
    refine tw_iconst (v := (-1)) hO dX7_program_7 (by decide) ?_
    exact tw_iret hO dX7_program_8 h
theorem cfX7_drop : tw_CF yX7_drop cX7_drop 3 (some .int) 1 := ⟨tw_w466, tw_w48, by decide +kernel, by decide +kernel, by decide +kernel⟩
theorem kX7_drop {σ : tw_St} {a : Nat} {x1 : Int32} {q : Int32 × tw_St} (h : fX7_drop σ a x1 = some q) : tw_is σ 7 a = some () := by
  unfold fX7_drop at h
  obtain ⟨_, e1, -⟩ := tw_bd h
  exact e1
set_option maxRecDepth 100000 in
set_option maxHeartbeats 4000000 in
theorem mX7_drop (l : Launch) (G : tw_G) {σ : tw_St} {a : Nat} {x1 : Int32} {q : Int32 × tw_St} (h : fX7_drop σ a x1 = some q) : tw_M l G yX7_drop cX7_drop 3 (some .int) rmX7_drop 0 0 σ [.ref a, .int x1] (some (.int q.1)) q.2 := by
  unfold fX7_drop at h
  obtain ⟨_, -, h⟩ := tw_bd h
  refine tw_M.of (by decide +kernel) (Nat.le_of_ble_eq_true rfl) (fun p e s m args below meth c hnm hO => ?_)
  have hO : tw_O p s m args meth c cX7_drop RX7 3 (some .int) G := hO
  refine tw_iload_n 1 hO dX7_drop_0 rfl rfl ?_
  obtain ⟨v1, e1, h⟩ := tw_bd h
  refine tw_cSi hO (mX7_isThread l G e1) cfX7_isThread tw_w459 tw_w460 rfl rfl rfl rfl ⟨(Nat.le_of_ble_eq_true rfl), (Nat.le_of_ble_eq_true rfl)⟩ (Nat.le_of_ble_eq_true rfl) ⟨(Nat.le_of_ble_eq_true rfl), (Nat.le_of_ble_eq_true rfl)⟩ dX7_drop_1 ?_
  refine tw_if_ne (tgt := 9) hO dX7_drop_4 (by decide) (fun cc => ?_) (fun cc => ?_)
  · replace h := tw_ifn cc h
    refine tw_aload_n 0 hO dX7_drop_9 rfl rfl ?_
    obtain ⟨v10, e10, h⟩ := tw_bd h
    refine tw_getP hO dX7_drop_10 (t := 7) rfl 0 (by decide) rfl tw_w243 rfl e10 ?_
    obtain ⟨v13, e13, h⟩ := tw_bd h
    refine tw_getP hO dX7_drop_13 (t := 6) rfl 1 (by decide) rfl tw_w98 rfl e13 ?_
    refine tw_iload_n 1 hO dX7_drop_16 rfl rfl ?_
    obtain ⟨v17, e17, h⟩ := tw_bd h
    refine tw_aald hO dX7_drop_17 (by decide) (by decide) e17 ?_
    obtain ⟨v18, e18, h⟩ := tw_bd h
    refine tw_getI hO dX7_drop_18 (t := 3) rfl 0 (by decide) rfl tw_w83 rfl e18 ?_
    refine tw_istore_n (lv' := [(2, .int v18), (0, .ref a), (1, .int x1)]) hO dX7_drop_21 rfl (by decide) rfl ?_
    refine tw_aload_n 1 hO dX7_drop_22 rfl rfl ?_
    obtain ⟨v23, e23, h⟩ := tw_bd h
    refine tw_getP hO dX7_drop_23 (t := 7) rfl 6 (by decide) rfl tw_w249 rfl e23 ?_
    refine tw_aload_n 1 hO dX7_drop_26 rfl rfl ?_
    obtain ⟨v27, e27, h⟩ := tw_bd h
    refine tw_getP hO dX7_drop_27 (t := 7) rfl 0 (by decide) rfl tw_w243 rfl e27 ?_
    obtain ⟨σ30, e30, h⟩ := tw_bd h
    refine tw_cVv hO (mX0_record l G e30) cfX0_record (t := 0) rfl (kX0_record e30) tw_w280 tw_w281 tw_w282 rfl rfl rfl rfl ⟨(Nat.le_of_ble_eq_true rfl), (Nat.le_of_ble_eq_true rfl)⟩ (Nat.le_of_ble_eq_true rfl) ⟨(Nat.le_of_ble_eq_true rfl), (Nat.le_of_ble_eq_true rfl)⟩ dX7_drop_30 ?_
    refine tw_aload_n 1 hO dX7_drop_33 rfl rfl ?_
    obtain ⟨v34, e34, h⟩ := tw_bd h
    refine tw_getP hO dX7_drop_34 (t := 7) rfl 0 (by decide) rfl tw_w243 rfl e34 ?_
    obtain ⟨v37, e37, h⟩ := tw_bd h
    refine tw_getP hO dX7_drop_37 (t := 6) rfl 1 (by decide) rfl tw_w98 rfl e37 ?_
    refine tw_iload_n 2 hO dX7_drop_40 rfl rfl ?_
    obtain ⟨v41, e41, h⟩ := tw_bd h
    refine tw_aald hO dX7_drop_41 (by decide) (by decide) e41 ?_
    refine tw_iconst (v := 0) hO dX7_drop_42 (by decide) ?_
    obtain ⟨σ43, e43, h⟩ := tw_bd h
    refine tw_putI hO dX7_drop_43 (t := 3) rfl 0 (by decide) rfl tw_w83 rfl rfl ⟨rfl, rfl⟩ e43 ?_
    refine tw_aload_n 1 hO dX7_drop_46 rfl rfl ?_
    obtain ⟨v47, e47, h⟩ := tw_bd h
    refine tw_getP hO dX7_drop_47 (t := 7) rfl 1 (by decide) rfl tw_w244 rfl e47 ?_
    refine tw_bipush (v := (-6)) hO dX7_drop_50 (by decide) ?_
    obtain ⟨σ52, e52, h⟩ := tw_bd h
    refine tw_cVv hO (mX5_play l G e52) cfX5_play (t := 5) rfl (kX5_play e52) tw_w296 tw_w297 tw_w298 rfl rfl rfl rfl ⟨(Nat.le_of_ble_eq_true rfl), (Nat.le_of_ble_eq_true rfl)⟩ (Nat.le_of_ble_eq_true rfl) ⟨(Nat.le_of_ble_eq_true rfl), (Nat.le_of_ble_eq_true rfl)⟩ dX7_drop_52 ?_
    refine tw_iload_n 0 hO dX7_drop_55 rfl rfl ?_
    exact tw_iret hO dX7_drop_56 h
  · replace h := tw_ifp cc h
    refine tw_iconst (v := (-1)) hO dX7_drop_7 (by decide) ?_
    exact tw_iret hO dX7_drop_8 h
theorem cfX7_first : tw_CF yX7_first cX7_first 5 (some .int) 3 := ⟨tw_w470, tw_w48, by decide +kernel, by decide +kernel, by decide +kernel⟩
theorem kX7_first {σ : tw_St} {a : Nat} {x1 : Int32} {x2 : Int32} {x3 : Int32} {q : Int32 × tw_St} (h : fX7_first σ a x1 x2 x3 = some q) : tw_is σ 7 a = some () := by
  unfold fX7_first at h
  obtain ⟨_, e1, -⟩ := tw_bd h
  exact e1
set_option maxRecDepth 100000 in
set_option maxHeartbeats 4000000 in
theorem mX7_first (l : Launch) (G : tw_G) {σ : tw_St} {a : Nat} {x1 : Int32} {x2 : Int32} {x3 : Int32} {q : Int32 × tw_St} (h : fX7_first σ a x1 x2 x3 = some q) : tw_M l G yX7_first cX7_first 5 (some .int) rmX7_first 0 0 σ [.ref a, .int x1, .int x2, .int x3] (some (.int q.1)) q.2 := by
  unfold fX7_first at h
  obtain ⟨_, -, h⟩ := tw_bd h
  refine tw_M.of (by decide +kernel) (Nat.le_of_ble_eq_true rfl) (fun p e s m args below meth c hnm hO => ?_)
  have hO : tw_O p s m args meth c cX7_first RX7 5 (some .int) G := hO
  refine tw_iload_n 1 hO dX7_first_0 rfl rfl ?_
  obtain ⟨v1, e1, h⟩ := tw_bd h
  refine tw_cSi hO (mX7_isThread l G e1) cfX7_isThread tw_w459 tw_w460 rfl rfl rfl rfl ⟨(Nat.le_of_ble_eq_true rfl), (Nat.le_of_ble_eq_true rfl)⟩ (Nat.le_of_ble_eq_true rfl) ⟨(Nat.le_of_ble_eq_true rfl), (Nat.le_of_ble_eq_true rfl)⟩ dX7_first_1 ?_
  refine tw_if_eq (tgt := 17) hO dX7_first_4 (by decide) (fun cc => ?_) (fun cc => ?_)
  · replace h := tw_ifp cc h
    refine tw_iconst (v := (-1)) hO dX7_first_17 (by decide) ?_
    exact tw_iret hO dX7_first_18 h
  · replace h := tw_ifn cc h
    refine tw_iload_n 2 hO dX7_first_7 rfl rfl ?_
    refine tw_if_lt (tgt := 17) hO dX7_first_8 (by decide) (fun cc => ?_) (fun cc => ?_)
    · replace h := tw_ifp cc h
      refine tw_iconst (v := (-1)) hO dX7_first_17 (by decide) ?_
      exact tw_iret hO dX7_first_18 h
    · replace h := tw_ifn cc h
      refine tw_iload_n 2 hO dX7_first_11 rfl rfl ?_
      refine tw_bipush (v := 12) hO dX7_first_12 (by decide) ?_
      refine tw_icmp_lt (tgt := 19) hO dX7_first_14 (by decide) (fun cc => ?_) (fun cc => ?_)
      · replace h := tw_ifp cc h
        refine tw_iload_n 3 hO dX7_first_19 rfl rfl ?_
        refine tw_if_lt (tgt := 30) hO dX7_first_20 (by decide) (fun cc => ?_) (fun cc => ?_)
        · replace h := tw_ifp cc h
          refine tw_bipush (v := (-2)) hO dX7_first_30 (by decide) ?_
          exact tw_iret hO dX7_first_32 h
        · replace h := tw_ifn cc h
          refine tw_iload_n 3 hO dX7_first_23 rfl rfl ?_
          refine tw_sipush (v := 1000) hO dX7_first_24 (by decide) ?_
          refine tw_icmp_lt (tgt := 33) hO dX7_first_27 (by decide) (fun cc => ?_) (fun cc => ?_)
          · replace h := tw_ifp cc h
            refine tw_aload_n 0 hO dX7_first_33 rfl rfl ?_
            obtain ⟨v34, e34, h⟩ := tw_bd h
            refine tw_getP hO dX7_first_34 (t := 7) rfl 0 (by decide) rfl tw_w243 rfl e34 ?_
            obtain ⟨v37, e37, h⟩ := tw_bd h
            refine tw_getP hO dX7_first_37 (t := 6) rfl 2 (by decide) rfl tw_w101 rfl e37 ?_
            refine tw_iload_n 1 hO dX7_first_40 rfl rfl ?_
            obtain ⟨v41, e41, h⟩ := tw_bd h
            refine tw_aald hO dX7_first_41 (by decide) (by decide) e41 ?_
            refine tw_iload_n 2 hO dX7_first_42 rfl rfl ?_
            obtain ⟨v43, e43, h⟩ := tw_bd h
            refine tw_iald hO dX7_first_43 e43 ?_
            refine tw_istore (lv' := [(4, .int v43), (0, .ref a), (1, .int x1), (2, .int x2), (3, .int x3)]) hO dX7_first_44 (by decide) rfl ?_
            refine tw_aload_n 1 hO dX7_first_46 rfl rfl ?_
            obtain ⟨v47, e47, h⟩ := tw_bd h
            refine tw_getP hO dX7_first_47 (t := 7) rfl 6 (by decide) rfl tw_w249 rfl e47 ?_
            refine tw_aload_n 1 hO dX7_first_50 rfl rfl ?_
            obtain ⟨v51, e51, h⟩ := tw_bd h
            refine tw_getP hO dX7_first_51 (t := 7) rfl 0 (by decide) rfl tw_w243 rfl e51 ?_
            obtain ⟨σ54, e54, h⟩ := tw_bd h
            refine tw_cVv hO (mX0_record l G e54) cfX0_record (t := 0) rfl (kX0_record e54) tw_w280 tw_w281 tw_w282 rfl rfl rfl rfl ⟨(Nat.le_of_ble_eq_true rfl), (Nat.le_of_ble_eq_true rfl)⟩ (Nat.le_of_ble_eq_true rfl) ⟨(Nat.le_of_ble_eq_true rfl), (Nat.le_of_ble_eq_true rfl)⟩ dX7_first_54 ?_
            refine tw_aload_n 1 hO dX7_first_57 rfl rfl ?_
            obtain ⟨v58, e58, h⟩ := tw_bd h
            refine tw_getP hO dX7_first_58 (t := 7) rfl 0 (by decide) rfl tw_w243 rfl e58 ?_
            obtain ⟨v61, e61, h⟩ := tw_bd h
            refine tw_getP hO dX7_first_61 (t := 6) rfl 2 (by decide) rfl tw_w101 rfl e61 ?_
            refine tw_iload_n 2 hO dX7_first_64 rfl rfl ?_
            obtain ⟨v65, e65, h⟩ := tw_bd h
            refine tw_aald hO dX7_first_65 (by decide) (by decide) e65 ?_
            refine tw_iload_n 3 hO dX7_first_66 rfl rfl ?_
            refine tw_iload_n 4 hO dX7_first_67 rfl rfl ?_
            obtain ⟨σ68, e68, h⟩ := tw_bd h
            refine tw_iast hO dX7_first_68 e68 ?_
            refine tw_aload_n 1 hO dX7_first_69 rfl rfl ?_
            obtain ⟨v70, e70, h⟩ := tw_bd h
            refine tw_getP hO dX7_first_70 (t := 7) rfl 1 (by decide) rfl tw_w244 rfl e70 ?_
            refine tw_bipush (v := (-6)) hO dX7_first_73 (by decide) ?_
            obtain ⟨σ75, e75, h⟩ := tw_bd h
            refine tw_cVv hO (mX5_play l G e75) cfX5_play (t := 5) rfl (kX5_play e75) tw_w296 tw_w297 tw_w298 rfl rfl rfl rfl ⟨(Nat.le_of_ble_eq_true rfl), (Nat.le_of_ble_eq_true rfl)⟩ (Nat.le_of_ble_eq_true rfl) ⟨(Nat.le_of_ble_eq_true rfl), (Nat.le_of_ble_eq_true rfl)⟩ dX7_first_75 ?_
            refine tw_iload 0 hO dX7_first_78 rfl ?_
            exact tw_iret hO dX7_first_80 h
          · replace h := tw_ifn cc h
            refine tw_bipush (v := (-2)) hO dX7_first_30 (by decide) ?_
            exact tw_iret hO dX7_first_32 h
      · replace h := tw_ifn cc h
        refine tw_iconst (v := (-1)) hO dX7_first_17 (by decide) ?_
        exact tw_iret hO dX7_first_18 h
theorem cfX7_exchange : tw_CF yX7_exchange cX7_exchange 1 (some .int) 0 := ⟨tw_w474, tw_w48, by decide +kernel, by decide +kernel, by decide +kernel⟩
theorem kX7_exchange {σ : tw_St} {a : Nat} {q : Int32 × tw_St} (h : fX7_exchange σ a = some q) : tw_is σ 7 a = some () := by
  unfold fX7_exchange at h
  obtain ⟨_, e1, -⟩ := tw_bd h
  exact e1
set_option maxRecDepth 100000 in
set_option maxHeartbeats 4000000 in
theorem mX7_exchange (l : Launch) (G : tw_G) {σ : tw_St} {a : Nat} {q : Int32 × tw_St} (h : fX7_exchange σ a = some q) : tw_M l G yX7_exchange cX7_exchange 1 (some .int) rmX7_exchange 0 0 σ [.ref a] (some (.int q.1)) q.2 := by
  unfold fX7_exchange at h
  obtain ⟨_, -, h⟩ := tw_bd h
  refine tw_M.of (by decide +kernel) (Nat.le_of_ble_eq_true rfl) (fun p e s m args below meth c hnm hO => ?_)
  have hO : tw_O p s m args meth c cX7_exchange RX7 1 (some .int) G := hO
  refine tw_aload_n 0 hO dX7_exchange_0 rfl rfl ?_
  obtain ⟨v1, e1, h⟩ := tw_bd h
  refine tw_getP hO dX7_exchange_1 (t := 7) rfl 6 (by decide) rfl tw_w249 rfl e1 ?_
  refine tw_aload_n 0 hO dX7_exchange_4 rfl rfl ?_
  obtain ⟨v5, e5, h⟩ := tw_bd h
  refine tw_getP hO dX7_exchange_5 (t := 7) rfl 0 (by decide) rfl tw_w243 rfl e5 ?_
  obtain ⟨σ8, e8, h⟩ := tw_bd h
  refine tw_cVv hO (mX0_record l G e8) cfX0_record (t := 0) rfl (kX0_record e8) tw_w280 tw_w281 tw_w282 rfl rfl rfl rfl ⟨(Nat.le_of_ble_eq_true rfl), (Nat.le_of_ble_eq_true rfl)⟩ (Nat.le_of_ble_eq_true rfl) ⟨(Nat.le_of_ble_eq_true rfl), (Nat.le_of_ble_eq_true rfl)⟩ dX7_exchange_8 ?_
  refine tw_aload_n 0 hO dX7_exchange_11 rfl rfl ?_
  obtain ⟨v12, e12, h⟩ := tw_bd h
  refine tw_getP hO dX7_exchange_12 (t := 7) rfl 0 (by decide) rfl tw_w243 rfl e12 ?_
  obtain ⟨σ15, e15, h⟩ := tw_bd h
  refine tw_cVv hO (mX6_exchangeThreads l G e15) cfX6_exchangeThreads (t := 6) rfl (kX6_exchangeThreads e15) tw_w475 tw_w476 tw_w477 rfl rfl rfl rfl ⟨(Nat.le_of_ble_eq_true rfl), (Nat.le_of_ble_eq_true rfl)⟩ (Nat.le_of_ble_eq_true rfl) ⟨(Nat.le_of_ble_eq_true rfl), (Nat.le_of_ble_eq_true rfl)⟩ dX7_exchange_15 ?_
  refine tw_aload_n 0 hO dX7_exchange_18 rfl rfl ?_
  obtain ⟨v19, e19, h⟩ := tw_bd h
  refine tw_getP hO dX7_exchange_19 (t := 7) rfl 1 (by decide) rfl tw_w244 rfl e19 ?_
  refine tw_bipush (v := (-6)) hO dX7_exchange_22 (by decide) ?_
  obtain ⟨σ24, e24, h⟩ := tw_bd h
  refine tw_cVv hO (mX5_play l G e24) cfX5_play (t := 5) rfl (kX5_play e24) tw_w296 tw_w297 tw_w298 rfl rfl rfl rfl ⟨(Nat.le_of_ble_eq_true rfl), (Nat.le_of_ble_eq_true rfl)⟩ (Nat.le_of_ble_eq_true rfl) ⟨(Nat.le_of_ble_eq_true rfl), (Nat.le_of_ble_eq_true rfl)⟩ dX7_exchange_24 ?_
  refine tw_aload_n 0 hO dX7_exchange_27 rfl rfl ?_
  obtain ⟨v28, e28, h⟩ := tw_bd h
  refine tw_getP hO dX7_exchange_28 (t := 7) rfl 1 (by decide) rfl tw_w244 rfl e28 ?_
  obtain ⟨v31, e31, h⟩ := tw_bd h
  refine tw_cVi hO (mX5_length l G e31) cfX5_length (t := 5) rfl (kX5_length e31) tw_w479 tw_w480 tw_w481 rfl rfl rfl rfl ⟨(Nat.le_of_ble_eq_true rfl), (Nat.le_of_ble_eq_true rfl)⟩ (Nat.le_of_ble_eq_true rfl) ⟨(Nat.le_of_ble_eq_true rfl), (Nat.le_of_ble_eq_true rfl)⟩ dX7_exchange_31 ?_
  exact tw_iret hO dX7_exchange_34 h
theorem cfX7_ofOrder : tw_CF yX7_ofOrder cX7_ofOrder 4 (some .int) 3 := ⟨tw_w486, tw_w48, by decide +kernel, by decide +kernel, by decide +kernel⟩
theorem kX7_ofOrder {σ : tw_St} {a : Nat} {x1 : Int32} {x2 : Int32} {x3 : Int32} {q : Int32} (h : fX7_ofOrder σ a x1 x2 x3 = some q) : tw_is σ 7 a = some () := by
  unfold fX7_ofOrder at h
  obtain ⟨_, e1, -⟩ := tw_bd h
  exact e1
set_option maxRecDepth 100000 in
set_option maxHeartbeats 4000000 in
theorem mX7_ofOrder (l : Launch) (G : tw_G) {σ : tw_St} {a : Nat} {x1 : Int32} {x2 : Int32} {x3 : Int32} {q : Int32} (h : fX7_ofOrder σ a x1 x2 x3 = some q) : tw_M l G yX7_ofOrder cX7_ofOrder 4 (some .int) rmX7_ofOrder 0 0 σ [.ref a, .int x1, .int x2, .int x3] (some (.int q)) σ := by
  unfold fX7_ofOrder at h
  obtain ⟨_, -, h⟩ := tw_bd h
  refine tw_M.of (by decide +kernel) (Nat.le_of_ble_eq_true rfl) (fun p e s m args below meth c hnm hO => ?_)
  have hO : tw_O p s m args meth c cX7_ofOrder RX7 4 (some .int) G := hO
  refine tw_iload_n 1 hO dX7_ofOrder_0 rfl rfl ?_
  obtain ⟨v1, e1, h⟩ := tw_bd h
  refine tw_cSi hO (mX7_isThread l G e1) cfX7_isThread tw_w459 tw_w460 rfl rfl rfl rfl ⟨(Nat.le_of_ble_eq_true rfl), (Nat.le_of_ble_eq_true rfl)⟩ (Nat.le_of_ble_eq_true rfl) ⟨(Nat.le_of_ble_eq_true rfl), (Nat.le_of_ble_eq_true rfl)⟩ dX7_ofOrder_1 ?_
  refine tw_if_eq (tgt := 27) hO dX7_ofOrder_4 (by decide) (fun cc => ?_) (fun cc => ?_)
  · replace h := tw_ifp cc h
    refine tw_iconst (v := (-1)) hO dX7_ofOrder_27 (by decide) ?_
    exact tw_iretR hO dX7_ofOrder_28 h
  · replace h := tw_ifn cc h
    refine tw_iload_n 2 hO dX7_ofOrder_7 rfl rfl ?_
    refine tw_if_lt (tgt := 27) hO dX7_ofOrder_8 (by decide) (fun cc => ?_) (fun cc => ?_)
    · replace h := tw_ifp cc h
      refine tw_iconst (v := (-1)) hO dX7_ofOrder_27 (by decide) ?_
      exact tw_iretR hO dX7_ofOrder_28 h
    · replace h := tw_ifn cc h
      refine tw_iload_n 2 hO dX7_ofOrder_11 rfl rfl ?_
      refine tw_aload_n 0 hO dX7_ofOrder_12 rfl rfl ?_
      obtain ⟨v13, e13, h⟩ := tw_bd h
      refine tw_getP hO dX7_ofOrder_13 (t := 7) rfl 0 (by decide) rfl tw_w243 rfl e13 ?_
      obtain ⟨v16, e16, h⟩ := tw_bd h
      refine tw_getP hO dX7_ofOrder_16 (t := 6) rfl 1 (by decide) rfl tw_w98 rfl e16 ?_
      refine tw_iload_n 1 hO dX7_ofOrder_19 rfl rfl ?_
      obtain ⟨v20, e20, h⟩ := tw_bd h
      refine tw_aald hO dX7_ofOrder_20 (by decide) (by decide) e20 ?_
      obtain ⟨v21, e21, h⟩ := tw_bd h
      refine tw_getI hO dX7_ofOrder_21 (t := 3) rfl 0 (by decide) rfl tw_w83 rfl e21 ?_
      refine tw_icmp_lt (tgt := 29) hO dX7_ofOrder_24 (by decide) (fun cc => ?_) (fun cc => ?_)
      · replace h := tw_ifp cc h
        refine tw_iload_n 3 hO dX7_ofOrder_29 rfl rfl ?_
        refine tw_if_lt (tgt := 38) hO dX7_ofOrder_30 (by decide) (fun cc => ?_) (fun cc => ?_)
        · replace h := tw_ifp cc h
          refine tw_bipush (v := (-2)) hO dX7_ofOrder_38 (by decide) ?_
          exact tw_iretR hO dX7_ofOrder_40 h
        · replace h := tw_ifn cc h
          refine tw_iload_n 3 hO dX7_ofOrder_33 rfl rfl ?_
          refine tw_iconst (v := 5) hO dX7_ofOrder_34 (by decide) ?_
          refine tw_icmp_lt (tgt := 41) hO dX7_ofOrder_35 (by decide) (fun cc => ?_) (fun cc => ?_)
          · replace h := tw_ifp cc h
            refine tw_aload_n 0 hO dX7_ofOrder_41 rfl rfl ?_
            obtain ⟨v42, e42, h⟩ := tw_bd h
            refine tw_getP hO dX7_ofOrder_42 (t := 7) rfl 0 (by decide) rfl tw_w243 rfl e42 ?_
            obtain ⟨v45, e45, h⟩ := tw_bd h
            refine tw_getP hO dX7_ofOrder_45 (t := 6) rfl 1 (by decide) rfl tw_w98 rfl e45 ?_
            refine tw_iload_n 1 hO dX7_ofOrder_48 rfl rfl ?_
            obtain ⟨v49, e49, h⟩ := tw_bd h
            refine tw_aald hO dX7_ofOrder_49 (by decide) (by decide) e49 ?_
            refine tw_iload_n 2 hO dX7_ofOrder_50 rfl rfl ?_
            refine tw_iload_n 3 hO dX7_ofOrder_51 rfl rfl ?_
            obtain ⟨v52, e52, h⟩ := tw_bd h
            refine tw_cVi hO (mX3_told l G e52) cfX3_told (t := 3) rfl (kX3_told e52) tw_w487 tw_w314 tw_w315 rfl rfl rfl rfl ⟨(Nat.le_of_ble_eq_true rfl), (Nat.le_of_ble_eq_true rfl)⟩ (Nat.le_of_ble_eq_true rfl) ⟨(Nat.le_of_ble_eq_true rfl), (Nat.le_of_ble_eq_true rfl)⟩ dX7_ofOrder_52 ?_
            exact tw_iretR hO dX7_ofOrder_55 h
          · replace h := tw_ifn cc h
            refine tw_bipush (v := (-2)) hO dX7_ofOrder_38 (by decide) ?_
            exact tw_iretR hO dX7_ofOrder_40 h
      · replace h := tw_ifn cc h
        refine tw_iconst (v := (-1)) hO dX7_ofOrder_27 (by decide) ?_
        exact tw_iretR hO dX7_ofOrder_28 h
theorem cfX7_ofThread : tw_CF yX7_ofThread cX7_ofThread 3 (some .int) 2 := ⟨tw_w491, tw_w48, by decide +kernel, by decide +kernel, by decide +kernel⟩
theorem kX7_ofThread {σ : tw_St} {a : Nat} {x1 : Int32} {x2 : Int32} {q : Int32} (h : fX7_ofThread σ a x1 x2 = some q) : tw_is σ 7 a = some () := by
  unfold fX7_ofThread at h
  obtain ⟨_, e1, -⟩ := tw_bd h
  exact e1
set_option maxRecDepth 100000 in
set_option maxHeartbeats 4000000 in
theorem mX7_ofThread (l : Launch) (G : tw_G) {σ : tw_St} {a : Nat} {x1 : Int32} {x2 : Int32} {q : Int32} (h : fX7_ofThread σ a x1 x2 = some q) : tw_M l G yX7_ofThread cX7_ofThread 3 (some .int) rmX7_ofThread 0 0 σ [.ref a, .int x1, .int x2] (some (.int q)) σ := by
  unfold fX7_ofThread at h
  obtain ⟨_, -, h⟩ := tw_bd h
  refine tw_M.of (by decide +kernel) (Nat.le_of_ble_eq_true rfl) (fun p e s m args below meth c hnm hO => ?_)
  have hO : tw_O p s m args meth c cX7_ofThread RX7 3 (some .int) G := hO
  refine tw_iload_n 1 hO dX7_ofThread_0 rfl rfl ?_
  obtain ⟨v1, e1, h⟩ := tw_bd h
  refine tw_cSi hO (mX7_isThread l G e1) cfX7_isThread tw_w459 tw_w460 rfl rfl rfl rfl ⟨(Nat.le_of_ble_eq_true rfl), (Nat.le_of_ble_eq_true rfl)⟩ (Nat.le_of_ble_eq_true rfl) ⟨(Nat.le_of_ble_eq_true rfl), (Nat.le_of_ble_eq_true rfl)⟩ dX7_ofThread_1 ?_
  refine tw_if_ne (tgt := 9) hO dX7_ofThread_4 (by decide) (fun cc => ?_) (fun cc => ?_)
  · replace h := tw_ifn cc h
    refine tw_iload_n 2 hO dX7_ofThread_9 rfl rfl ?_
    by_cases s0 : x2 = 0
    · replace h := tw_ifp s0 h
      refine tw_tableIn (off := 58) (tgt := 68) hO dX7_ofThread_10 (by rw [s0]; decide) (by rw [s0]; decide) (by rw [s0]; rfl) (by decide) ?_
      refine tw_aload_n 0 hO dX7_ofThread_68 rfl rfl ?_
      obtain ⟨v69, e69, h⟩ := tw_bd h
      refine tw_getP hO dX7_ofThread_69 (t := 7) rfl 0 (by decide) rfl tw_w243 rfl e69 ?_
      obtain ⟨v72, e72, h⟩ := tw_bd h
      refine tw_getP hO dX7_ofThread_72 (t := 6) rfl 1 (by decide) rfl tw_w98 rfl e72 ?_
      refine tw_iload_n 1 hO dX7_ofThread_75 rfl rfl ?_
      obtain ⟨v76, e76, h⟩ := tw_bd h
      refine tw_aald hO dX7_ofThread_76 (by decide) (by decide) e76 ?_
      obtain ⟨v77, e77, h⟩ := tw_bd h
      refine tw_getI hO dX7_ofThread_77 (t := 3) rfl 0 (by decide) rfl tw_w83 rfl e77 ?_
      exact tw_iretR hO dX7_ofThread_80 h
    replace h := tw_ifn s0 h
    by_cases s1 : x2 = 1
    · replace h := tw_ifp s1 h
      refine tw_tableIn (off := 71) (tgt := 81) hO dX7_ofThread_10 (by rw [s1]; decide) (by rw [s1]; decide) (by rw [s1]; rfl) (by decide) ?_
      refine tw_aload_n 0 hO dX7_ofThread_81 rfl rfl ?_
      obtain ⟨v82, e82, h⟩ := tw_bd h
      refine tw_getP hO dX7_ofThread_82 (t := 7) rfl 1 (by decide) rfl tw_w244 rfl e82 ?_
      obtain ⟨v85, e85, h⟩ := tw_bd h
      refine tw_getP hO dX7_ofThread_85 (t := 5) rfl 1 (by decide) rfl tw_w144 rfl e85 ?_
      refine tw_iload_n 1 hO dX7_ofThread_88 rfl rfl ?_
      obtain ⟨v89, e89, h⟩ := tw_bd h
      refine tw_iald hO dX7_ofThread_89 e89 ?_
      exact tw_iretR hO dX7_ofThread_90 h
    replace h := tw_ifn s1 h
    by_cases s2 : x2 = 2
    · replace h := tw_ifp s2 h
      refine tw_tableIn (off := 81) (tgt := 91) hO dX7_ofThread_10 (by rw [s2]; decide) (by rw [s2]; decide) (by rw [s2]; rfl) (by decide) ?_
      refine tw_aload_n 0 hO dX7_ofThread_91 rfl rfl ?_
      obtain ⟨v92, e92, h⟩ := tw_bd h
      refine tw_getP hO dX7_ofThread_92 (t := 7) rfl 1 (by decide) rfl tw_w244 rfl e92 ?_
      obtain ⟨v95, e95, h⟩ := tw_bd h
      refine tw_getP hO dX7_ofThread_95 (t := 5) rfl 2 (by decide) rfl tw_w146 rfl e95 ?_
      refine tw_iload_n 1 hO dX7_ofThread_98 rfl rfl ?_
      obtain ⟨v99, e99, h⟩ := tw_bd h
      refine tw_iald hO dX7_ofThread_99 e99 ?_
      exact tw_iretR hO dX7_ofThread_100 h
    replace h := tw_ifn s2 h
    by_cases s3 : x2 = 3
    · replace h := tw_ifp s3 h
      refine tw_tableIn (off := 91) (tgt := 101) hO dX7_ofThread_10 (by rw [s3]; decide) (by rw [s3]; decide) (by rw [s3]; rfl) (by decide) ?_
      refine tw_aload_n 0 hO dX7_ofThread_101 rfl rfl ?_
      obtain ⟨v102, e102, h⟩ := tw_bd h
      refine tw_getP hO dX7_ofThread_102 (t := 7) rfl 1 (by decide) rfl tw_w244 rfl e102 ?_
      obtain ⟨v105, e105, h⟩ := tw_bd h
      refine tw_getP hO dX7_ofThread_105 (t := 5) rfl 0 (by decide) rfl tw_w142 rfl e105 ?_
      refine tw_iload_n 1 hO dX7_ofThread_108 rfl rfl ?_
      obtain ⟨v109, e109, h⟩ := tw_bd h
      refine tw_aald hO dX7_ofThread_109 (by decide) (by decide) e109 ?_
      obtain ⟨v110, e110, h⟩ := tw_bd h
      refine tw_getI hO dX7_ofThread_110 (t := 2) rfl 1 (by decide) rfl tw_w125 rfl e110 ?_
      refine tw_if_eq (tgt := 120) hO dX7_ofThread_113 (by decide) (fun cc => ?_) (fun cc => ?_)
      · replace h := tw_ifp cc h
        refine tw_iconst (v := 0) hO dX7_ofThread_120 (by decide) ?_
        exact tw_iretR hO dX7_ofThread_121 h
      · replace h := tw_ifn cc h
        refine tw_iconst (v := 1) hO dX7_ofThread_116 (by decide) ?_
        refine tw_goto (tgt := 121) hO dX7_ofThread_117 (by decide) ?_
        exact tw_iretR hO dX7_ofThread_121 h
    replace h := tw_ifn s3 h
    by_cases s4 : x2 = 4
    · replace h := tw_ifp s4 h
      refine tw_tableIn (off := 112) (tgt := 122) hO dX7_ofThread_10 (by rw [s4]; decide) (by rw [s4]; decide) (by rw [s4]; rfl) (by decide) ?_
      refine tw_aload_n 0 hO dX7_ofThread_122 rfl rfl ?_
      obtain ⟨v123, e123, h⟩ := tw_bd h
      refine tw_getP hO dX7_ofThread_123 (t := 7) rfl 1 (by decide) rfl tw_w244 rfl e123 ?_
      obtain ⟨v126, e126, h⟩ := tw_bd h
      refine tw_getP hO dX7_ofThread_126 (t := 5) rfl 5 (by decide) rfl tw_w152 rfl e126 ?_
      refine tw_iload_n 1 hO dX7_ofThread_129 rfl rfl ?_
      obtain ⟨v130, e130, h⟩ := tw_bd h
      refine tw_aald hO dX7_ofThread_130 (by decide) (by decide) e130 ?_
      refine tw_iconst (v := 1) hO dX7_ofThread_131 (by decide) ?_
      obtain ⟨v132, e132, h⟩ := tw_bd h
      refine tw_iald hO dX7_ofThread_132 e132 ?_
      exact tw_iretR hO dX7_ofThread_133 h
    replace h := tw_ifn s4 h
    by_cases s5 : x2 = 5
    · replace h := tw_ifp s5 h
      refine tw_tableIn (off := 124) (tgt := 134) hO dX7_ofThread_10 (by rw [s5]; decide) (by rw [s5]; decide) (by rw [s5]; rfl) (by decide) ?_
      refine tw_aload_n 0 hO dX7_ofThread_134 rfl rfl ?_
      obtain ⟨v135, e135, h⟩ := tw_bd h
      refine tw_getP hO dX7_ofThread_135 (t := 7) rfl 1 (by decide) rfl tw_w244 rfl e135 ?_
      obtain ⟨v138, e138, h⟩ := tw_bd h
      refine tw_getP hO dX7_ofThread_138 (t := 5) rfl 5 (by decide) rfl tw_w152 rfl e138 ?_
      refine tw_iload_n 1 hO dX7_ofThread_141 rfl rfl ?_
      obtain ⟨v142, e142, h⟩ := tw_bd h
      refine tw_aald hO dX7_ofThread_142 (by decide) (by decide) e142 ?_
      refine tw_iconst (v := 2) hO dX7_ofThread_143 (by decide) ?_
      obtain ⟨v144, e144, h⟩ := tw_bd h
      refine tw_iald hO dX7_ofThread_144 e144 ?_
      exact tw_iretR hO dX7_ofThread_145 h
    replace h := tw_ifn s5 h
    by_cases s6 : x2 = 6
    · replace h := tw_ifp s6 h
      refine tw_tableIn (off := 136) (tgt := 146) hO dX7_ofThread_10 (by rw [s6]; decide) (by rw [s6]; decide) (by rw [s6]; rfl) (by decide) ?_
      refine tw_aload_n 0 hO dX7_ofThread_146 rfl rfl ?_
      obtain ⟨v147, e147, h⟩ := tw_bd h
      refine tw_getP hO dX7_ofThread_147 (t := 7) rfl 1 (by decide) rfl tw_w244 rfl e147 ?_
      obtain ⟨v150, e150, h⟩ := tw_bd h
      refine tw_getP hO dX7_ofThread_150 (t := 5) rfl 5 (by decide) rfl tw_w152 rfl e150 ?_
      refine tw_iload_n 1 hO dX7_ofThread_153 rfl rfl ?_
      obtain ⟨v154, e154, h⟩ := tw_bd h
      refine tw_aald hO dX7_ofThread_154 (by decide) (by decide) e154 ?_
      refine tw_iconst (v := 3) hO dX7_ofThread_155 (by decide) ?_
      obtain ⟨v156, e156, h⟩ := tw_bd h
      refine tw_iald hO dX7_ofThread_156 e156 ?_
      exact tw_iretR hO dX7_ofThread_157 h
    replace h := tw_ifn s6 h
    by_cases s7 : x2 = 7
    · replace h := tw_ifp s7 h
      refine tw_tableIn (off := 148) (tgt := 158) hO dX7_ofThread_10 (by rw [s7]; decide) (by rw [s7]; decide) (by rw [s7]; rfl) (by decide) ?_
      refine tw_aload_n 0 hO dX7_ofThread_158 rfl rfl ?_
      obtain ⟨v159, e159, h⟩ := tw_bd h
      refine tw_getP hO dX7_ofThread_159 (t := 7) rfl 1 (by decide) rfl tw_w244 rfl e159 ?_
      obtain ⟨v162, e162, h⟩ := tw_bd h
      refine tw_getP hO dX7_ofThread_162 (t := 5) rfl 5 (by decide) rfl tw_w152 rfl e162 ?_
      refine tw_iload_n 1 hO dX7_ofThread_165 rfl rfl ?_
      obtain ⟨v166, e166, h⟩ := tw_bd h
      refine tw_aald hO dX7_ofThread_166 (by decide) (by decide) e166 ?_
      refine tw_iconst (v := 4) hO dX7_ofThread_167 (by decide) ?_
      obtain ⟨v168, e168, h⟩ := tw_bd h
      refine tw_iald hO dX7_ofThread_168 e168 ?_
      exact tw_iretR hO dX7_ofThread_169 h
    replace h := tw_ifn s7 h
    by_cases s8 : x2 = 8
    · replace h := tw_ifp s8 h
      refine tw_tableIn (off := 160) (tgt := 170) hO dX7_ofThread_10 (by rw [s8]; decide) (by rw [s8]; decide) (by rw [s8]; rfl) (by decide) ?_
      refine tw_aload_n 0 hO dX7_ofThread_170 rfl rfl ?_
      obtain ⟨v171, e171, h⟩ := tw_bd h
      refine tw_getP hO dX7_ofThread_171 (t := 7) rfl 1 (by decide) rfl tw_w244 rfl e171 ?_
      refine tw_iload_n 1 hO dX7_ofThread_174 rfl rfl ?_
      obtain ⟨v175, e175, h⟩ := tw_bd h
      refine tw_cVi hO (mX5_latestStart l G e175) cfX5_latestStart (t := 5) rfl (kX5_latestStart e175) tw_w492 tw_w367 tw_w368 rfl rfl rfl rfl ⟨(Nat.le_of_ble_eq_true rfl), (Nat.le_of_ble_eq_true rfl)⟩ (Nat.le_of_ble_eq_true rfl) ⟨(Nat.le_of_ble_eq_true rfl), (Nat.le_of_ble_eq_true rfl)⟩ dX7_ofThread_175 ?_
      exact tw_iretR hO dX7_ofThread_178 h
    replace h := tw_ifn s8 h
    by_cases s9 : x2 = 9
    · replace h := tw_ifp s9 h
      refine tw_tableIn (off := 169) (tgt := 179) hO dX7_ofThread_10 (by rw [s9]; decide) (by rw [s9]; decide) (by rw [s9]; rfl) (by decide) ?_
      refine tw_aload_n 0 hO dX7_ofThread_179 rfl rfl ?_
      obtain ⟨v180, e180, h⟩ := tw_bd h
      refine tw_getP hO dX7_ofThread_180 (t := 7) rfl 1 (by decide) rfl tw_w244 rfl e180 ?_
      refine tw_iload_n 1 hO dX7_ofThread_183 rfl rfl ?_
      refine tw_iconst (v := 0) hO dX7_ofThread_184 (by decide) ?_
      obtain ⟨v185, e185, h⟩ := tw_bd h
      refine tw_cVi hO (mX5_stepsIn l G e185) cfX5_stepsIn (t := 5) rfl (kX5_stepsIn e185) tw_w493 tw_w494 tw_w495 rfl rfl rfl rfl ⟨(Nat.le_of_ble_eq_true rfl), (Nat.le_of_ble_eq_true rfl)⟩ (Nat.le_of_ble_eq_true rfl) ⟨(Nat.le_of_ble_eq_true rfl), (Nat.le_of_ble_eq_true rfl)⟩ dX7_ofThread_185 ?_
      exact tw_iretR hO dX7_ofThread_188 h
    replace h := tw_ifn s9 h
    by_cases s10 : x2 = 10
    · replace h := tw_ifp s10 h
      refine tw_tableIn (off := 179) (tgt := 189) hO dX7_ofThread_10 (by rw [s10]; decide) (by rw [s10]; decide) (by rw [s10]; rfl) (by decide) ?_
      refine tw_aload_n 0 hO dX7_ofThread_189 rfl rfl ?_
      obtain ⟨v190, e190, h⟩ := tw_bd h
      refine tw_getP hO dX7_ofThread_190 (t := 7) rfl 1 (by decide) rfl tw_w244 rfl e190 ?_
      refine tw_iload_n 1 hO dX7_ofThread_193 rfl rfl ?_
      refine tw_iconst (v := 1) hO dX7_ofThread_194 (by decide) ?_
      obtain ⟨v195, e195, h⟩ := tw_bd h
      refine tw_cVi hO (mX5_stepsIn l G e195) cfX5_stepsIn (t := 5) rfl (kX5_stepsIn e195) tw_w493 tw_w494 tw_w495 rfl rfl rfl rfl ⟨(Nat.le_of_ble_eq_true rfl), (Nat.le_of_ble_eq_true rfl)⟩ (Nat.le_of_ble_eq_true rfl) ⟨(Nat.le_of_ble_eq_true rfl), (Nat.le_of_ble_eq_true rfl)⟩ dX7_ofThread_195 ?_
      exact tw_iretR hO dX7_ofThread_198 h
    replace h := tw_ifn s10 h
    refine tw_tableOut (tgt := 199) hO dX7_ofThread_10 (by have n0 := lv_neT (a := 0) s0 rfl; have n1 := lv_neT (a := 1) s1 rfl; have n2 := lv_neT (a := 2) s2 rfl; have n3 := lv_neT (a := 3) s3 rfl; have n4 := lv_neT (a := 4) s4 rfl; have n5 := lv_neT (a := 5) s5 rfl; have n6 := lv_neT (a := 6) s6 rfl; have n7 := lv_neT (a := 7) s7 rfl; have n8 := lv_neT (a := 8) s8 rfl; have n9 := lv_neT (a := 9) s9 rfl; have n10 := lv_neT (a := 10) s10 rfl; omega) (by decide) ?_
    refine tw_bipush (v := (-2)) hO dX7_ofThread_199 (by decide) ?_
    exact tw_iretR hO dX7_ofThread_201 h
  · replace h := tw_ifp cc h
    refine tw_iconst (v := (-1)) hO dX7_ofThread_7 (by decide) ?_
    exact tw_iretR hO dX7_ofThread_8 h
theorem cfX7_last : tw_CF yX7_last cX7_last 3 (some .int) 2 := ⟨tw_w500, tw_w48, by decide +kernel, by decide +kernel, by decide +kernel⟩
theorem kX7_last {σ : tw_St} {a : Nat} {x1 : Int32} {x2 : Int32} {q : Int32} (h : fX7_last σ a x1 x2 = some q) : tw_is σ 7 a = some () := by
  unfold fX7_last at h
  obtain ⟨_, e1, -⟩ := tw_bd h
  exact e1
set_option maxRecDepth 100000 in
set_option maxHeartbeats 4000000 in
theorem mX7_last (l : Launch) (G : tw_G) {σ : tw_St} {a : Nat} {x1 : Int32} {x2 : Int32} {q : Int32} (h : fX7_last σ a x1 x2 = some q) : tw_M l G yX7_last cX7_last 3 (some .int) rmX7_last 0 0 σ [.ref a, .int x1, .int x2] (some (.int q)) σ := by
  unfold fX7_last at h
  obtain ⟨_, -, h⟩ := tw_bd h
  refine tw_M.of (by decide +kernel) (Nat.le_of_ble_eq_true rfl) (fun p e s m args below meth c hnm hO => ?_)
  have hO : tw_O p s m args meth c cX7_last RX7 3 (some .int) G := hO
  refine tw_iload_n 1 hO dX7_last_0 rfl rfl ?_
  obtain ⟨v1, e1, h⟩ := tw_bd h
  refine tw_cSi hO (mX7_isThread l G e1) cfX7_isThread tw_w459 tw_w460 rfl rfl rfl rfl ⟨(Nat.le_of_ble_eq_true rfl), (Nat.le_of_ble_eq_true rfl)⟩ (Nat.le_of_ble_eq_true rfl) ⟨(Nat.le_of_ble_eq_true rfl), (Nat.le_of_ble_eq_true rfl)⟩ dX7_last_1 ?_
  refine tw_if_eq (tgt := 17) hO dX7_last_4 (by decide) (fun cc => ?_) (fun cc => ?_)
  · replace h := tw_ifp cc h
    refine tw_iconst (v := (-1)) hO dX7_last_17 (by decide) ?_
    exact tw_iretR hO dX7_last_18 h
  · replace h := tw_ifn cc h
    refine tw_iload_n 2 hO dX7_last_7 rfl rfl ?_
    refine tw_if_lt (tgt := 17) hO dX7_last_8 (by decide) (fun cc => ?_) (fun cc => ?_)
    · replace h := tw_ifp cc h
      refine tw_iconst (v := (-1)) hO dX7_last_17 (by decide) ?_
      exact tw_iretR hO dX7_last_18 h
    · replace h := tw_ifn cc h
      refine tw_iload_n 2 hO dX7_last_11 rfl rfl ?_
      refine tw_bipush (v := 12) hO dX7_last_12 (by decide) ?_
      refine tw_icmp_lt (tgt := 19) hO dX7_last_14 (by decide) (fun cc => ?_) (fun cc => ?_)
      · replace h := tw_ifp cc h
        refine tw_aload_n 0 hO dX7_last_19 rfl rfl ?_
        obtain ⟨v20, e20, h⟩ := tw_bd h
        refine tw_getP hO dX7_last_20 (t := 7) rfl 1 (by decide) rfl tw_w244 rfl e20 ?_
        obtain ⟨v23, e23, h⟩ := tw_bd h
        refine tw_getP hO dX7_last_23 (t := 5) rfl 0 (by decide) rfl tw_w142 rfl e23 ?_
        refine tw_iload_n 1 hO dX7_last_26 rfl rfl ?_
        obtain ⟨v27, e27, h⟩ := tw_bd h
        refine tw_aald hO dX7_last_27 (by decide) (by decide) e27 ?_
        obtain ⟨v28, e28, h⟩ := tw_bd h
        refine tw_getP hO dX7_last_28 (t := 2) rfl 3 (by decide) rfl tw_w130 rfl e28 ?_
        refine tw_iload_n 2 hO dX7_last_31 rfl rfl ?_
        obtain ⟨v32, e32, h⟩ := tw_bd h
        refine tw_iald hO dX7_last_32 e32 ?_
        exact tw_iretR hO dX7_last_33 h
      · replace h := tw_ifn cc h
        refine tw_iconst (v := (-1)) hO dX7_last_17 (by decide) ?_
        exact tw_iretR hO dX7_last_18 h
theorem cfX7_ofStep : tw_CF yX7_ofStep cX7_ofStep 4 (some .int) 3 := ⟨tw_w504, tw_w48, by decide +kernel, by decide +kernel, by decide +kernel⟩
theorem kX7_ofStep {σ : tw_St} {a : Nat} {x1 : Int32} {x2 : Int32} {x3 : Int32} {q : Int32} (h : fX7_ofStep σ a x1 x2 x3 = some q) : tw_is σ 7 a = some () := by
  unfold fX7_ofStep at h
  obtain ⟨_, e1, -⟩ := tw_bd h
  exact e1
set_option maxRecDepth 100000 in
set_option maxHeartbeats 4000000 in
theorem mX7_ofStep (l : Launch) (G : tw_G) {σ : tw_St} {a : Nat} {x1 : Int32} {x2 : Int32} {x3 : Int32} {q : Int32} (h : fX7_ofStep σ a x1 x2 x3 = some q) : tw_M l G yX7_ofStep cX7_ofStep 4 (some .int) rmX7_ofStep 0 0 σ [.ref a, .int x1, .int x2, .int x3] (some (.int q)) σ := by
  unfold fX7_ofStep at h
  obtain ⟨_, -, h⟩ := tw_bd h
  refine tw_M.of (by decide +kernel) (Nat.le_of_ble_eq_true rfl) (fun p e s m args below meth c hnm hO => ?_)
  have hO : tw_O p s m args meth c cX7_ofStep RX7 4 (some .int) G := hO
  refine tw_iload_n 1 hO dX7_ofStep_0 rfl rfl ?_
  obtain ⟨v1, e1, h⟩ := tw_bd h
  refine tw_cSi hO (mX7_isThread l G e1) cfX7_isThread tw_w459 tw_w460 rfl rfl rfl rfl ⟨(Nat.le_of_ble_eq_true rfl), (Nat.le_of_ble_eq_true rfl)⟩ (Nat.le_of_ble_eq_true rfl) ⟨(Nat.le_of_ble_eq_true rfl), (Nat.le_of_ble_eq_true rfl)⟩ dX7_ofStep_1 ?_
  refine tw_if_eq (tgt := 24) hO dX7_ofStep_4 (by decide) (fun cc => ?_) (fun cc => ?_)
  · replace h := tw_ifp cc h
    refine tw_iconst (v := (-1)) hO dX7_ofStep_24 (by decide) ?_
    exact tw_iretR hO dX7_ofStep_25 h
  · replace h := tw_ifn cc h
    refine tw_iload_n 2 hO dX7_ofStep_7 rfl rfl ?_
    refine tw_if_lt (tgt := 24) hO dX7_ofStep_8 (by decide) (fun cc => ?_) (fun cc => ?_)
    · replace h := tw_ifp cc h
      refine tw_iconst (v := (-1)) hO dX7_ofStep_24 (by decide) ?_
      exact tw_iretR hO dX7_ofStep_25 h
    · replace h := tw_ifn cc h
      refine tw_iload_n 2 hO dX7_ofStep_11 rfl rfl ?_
      refine tw_aload_n 0 hO dX7_ofStep_12 rfl rfl ?_
      obtain ⟨v13, e13, h⟩ := tw_bd h
      refine tw_getP hO dX7_ofStep_13 (t := 7) rfl 1 (by decide) rfl tw_w244 rfl e13 ?_
      obtain ⟨v16, e16, h⟩ := tw_bd h
      refine tw_getP hO dX7_ofStep_16 (t := 5) rfl 1 (by decide) rfl tw_w144 rfl e16 ?_
      refine tw_iload_n 1 hO dX7_ofStep_19 rfl rfl ?_
      obtain ⟨v20, e20, h⟩ := tw_bd h
      refine tw_iald hO dX7_ofStep_20 e20 ?_
      refine tw_icmp_lt (tgt := 26) hO dX7_ofStep_21 (by decide) (fun cc => ?_) (fun cc => ?_)
      · replace h := tw_ifp cc h
        refine tw_iload_n 3 hO dX7_ofStep_26 rfl rfl ?_
        by_cases s0 : x3 = 0
        · replace h := tw_ifp s0 h
          refine tw_tableIn (off := 29) (tgt := 56) hO dX7_ofStep_27 (by rw [s0]; decide) (by rw [s0]; decide) (by rw [s0]; rfl) (by decide) ?_
          refine tw_aload_n 0 hO dX7_ofStep_56 rfl rfl ?_
          obtain ⟨v57, e57, h⟩ := tw_bd h
          refine tw_getP hO dX7_ofStep_57 (t := 7) rfl 1 (by decide) rfl tw_w244 rfl e57 ?_
          obtain ⟨v60, e60, h⟩ := tw_bd h
          refine tw_getP hO dX7_ofStep_60 (t := 5) rfl 3 (by decide) rfl tw_w148 rfl e60 ?_
          refine tw_iload_n 1 hO dX7_ofStep_63 rfl rfl ?_
          obtain ⟨v64, e64, h⟩ := tw_bd h
          refine tw_aald hO dX7_ofStep_64 (by decide) (by decide) e64 ?_
          refine tw_iload_n 2 hO dX7_ofStep_65 rfl rfl ?_
          obtain ⟨v66, e66, h⟩ := tw_bd h
          refine tw_iald hO dX7_ofStep_66 e66 ?_
          exact tw_iretR hO dX7_ofStep_67 h
        replace h := tw_ifn s0 h
        by_cases s1 : x3 = 1
        · replace h := tw_ifp s1 h
          refine tw_tableIn (off := 41) (tgt := 68) hO dX7_ofStep_27 (by rw [s1]; decide) (by rw [s1]; decide) (by rw [s1]; rfl) (by decide) ?_
          refine tw_aload_n 0 hO dX7_ofStep_68 rfl rfl ?_
          obtain ⟨v69, e69, h⟩ := tw_bd h
          refine tw_getP hO dX7_ofStep_69 (t := 7) rfl 1 (by decide) rfl tw_w244 rfl e69 ?_
          obtain ⟨v72, e72, h⟩ := tw_bd h
          refine tw_getP hO dX7_ofStep_72 (t := 5) rfl 0 (by decide) rfl tw_w142 rfl e72 ?_
          refine tw_iload_n 1 hO dX7_ofStep_75 rfl rfl ?_
          obtain ⟨v76, e76, h⟩ := tw_bd h
          refine tw_aald hO dX7_ofStep_76 (by decide) (by decide) e76 ?_
          obtain ⟨v77, e77, h⟩ := tw_bd h
          refine tw_getP hO dX7_ofStep_77 (t := 2) rfl 2 (by decide) rfl tw_w128 rfl e77 ?_
          refine tw_iload_n 2 hO dX7_ofStep_80 rfl rfl ?_
          obtain ⟨v81, e81, h⟩ := tw_bd h
          refine tw_iald hO dX7_ofStep_81 e81 ?_
          exact tw_iretR hO dX7_ofStep_82 h
        replace h := tw_ifn s1 h
        by_cases s2 : x3 = 2
        · replace h := tw_ifp s2 h
          refine tw_tableIn (off := 56) (tgt := 83) hO dX7_ofStep_27 (by rw [s2]; decide) (by rw [s2]; decide) (by rw [s2]; rfl) (by decide) ?_
          refine tw_aload_n 0 hO dX7_ofStep_83 rfl rfl ?_
          obtain ⟨v84, e84, h⟩ := tw_bd h
          refine tw_getP hO dX7_ofStep_84 (t := 7) rfl 1 (by decide) rfl tw_w244 rfl e84 ?_
          obtain ⟨v87, e87, h⟩ := tw_bd h
          refine tw_getP hO dX7_ofStep_87 (t := 5) rfl 4 (by decide) rfl tw_w150 rfl e87 ?_
          refine tw_iload_n 1 hO dX7_ofStep_90 rfl rfl ?_
          obtain ⟨v91, e91, h⟩ := tw_bd h
          refine tw_aald hO dX7_ofStep_91 (by decide) (by decide) e91 ?_
          refine tw_iload_n 2 hO dX7_ofStep_92 rfl rfl ?_
          obtain ⟨v93, e93, h⟩ := tw_bd h
          refine tw_iald hO dX7_ofStep_93 e93 ?_
          exact tw_iretR hO dX7_ofStep_94 h
        replace h := tw_ifn s2 h
        by_cases s3 : x3 = 3
        · replace h := tw_ifp s3 h
          refine tw_tableIn (off := 68) (tgt := 95) hO dX7_ofStep_27 (by rw [s3]; decide) (by rw [s3]; decide) (by rw [s3]; rfl) (by decide) ?_
          refine tw_aload_n 0 hO dX7_ofStep_95 rfl rfl ?_
          obtain ⟨v96, e96, h⟩ := tw_bd h
          refine tw_getP hO dX7_ofStep_96 (t := 7) rfl 1 (by decide) rfl tw_w244 rfl e96 ?_
          refine tw_iload_n 1 hO dX7_ofStep_99 rfl rfl ?_
          refine tw_iload_n 2 hO dX7_ofStep_100 rfl rfl ?_
          obtain ⟨v101, e101, h⟩ := tw_bd h
          refine tw_cVi hO (mX5_waitAhead l G e101) cfX5_waitAhead (t := 5) rfl (kX5_waitAhead e101) tw_w505 tw_w506 tw_w507 rfl rfl rfl rfl ⟨(Nat.le_of_ble_eq_true rfl), (Nat.le_of_ble_eq_true rfl)⟩ (Nat.le_of_ble_eq_true rfl) ⟨(Nat.le_of_ble_eq_true rfl), (Nat.le_of_ble_eq_true rfl)⟩ dX7_ofStep_101 ?_
          exact tw_iretR hO dX7_ofStep_104 h
        replace h := tw_ifn s3 h
        refine tw_tableOut (tgt := 105) hO dX7_ofStep_27 (by have n0 := lv_neT (a := 0) s0 rfl; have n1 := lv_neT (a := 1) s1 rfl; have n2 := lv_neT (a := 2) s2 rfl; have n3 := lv_neT (a := 3) s3 rfl; omega) (by decide) ?_
        refine tw_bipush (v := (-2)) hO dX7_ofStep_105 (by decide) ?_
        exact tw_iretR hO dX7_ofStep_107 h
      · replace h := tw_ifn cc h
        refine tw_iconst (v := (-1)) hO dX7_ofStep_24 (by decide) ?_
        exact tw_iretR hO dX7_ofStep_25 h
theorem cfX7_at : tw_CF yX7_at cX7_at 3 (some .int) 2 := ⟨tw_w512, tw_w48, by decide +kernel, by decide +kernel, by decide +kernel⟩
theorem kX7_at {σ : tw_St} {a : Nat} {x1 : Int32} {x2 : Int32} {q : Int32} (h : fX7_at σ a x1 x2 = some q) : tw_is σ 7 a = some () := by
  unfold fX7_at at h
  obtain ⟨_, e1, -⟩ := tw_bd h
  exact e1
set_option maxRecDepth 100000 in
set_option maxHeartbeats 4000000 in
theorem mX7_at (l : Launch) (G : tw_G) {σ : tw_St} {a : Nat} {x1 : Int32} {x2 : Int32} {q : Int32} (h : fX7_at σ a x1 x2 = some q) : tw_M l G yX7_at cX7_at 3 (some .int) rmX7_at 0 0 σ [.ref a, .int x1, .int x2] (some (.int q)) σ := by
  unfold fX7_at at h
  obtain ⟨_, -, h⟩ := tw_bd h
  refine tw_M.of (by decide +kernel) (Nat.le_of_ble_eq_true rfl) (fun p e s m args below meth c hnm hO => ?_)
  have hO : tw_O p s m args meth c cX7_at RX7 3 (some .int) G := hO
  refine tw_iload_n 1 hO dX7_at_0 rfl rfl ?_
  refine tw_if_ge (tgt := 7) hO dX7_at_1 (by decide) (fun cc => ?_) (fun cc => ?_)
  · replace h := tw_ifp cc h
    refine tw_iload_n 2 hO dX7_at_7 rfl rfl ?_
    by_cases s0 : x2 = 0
    · replace h := tw_ifp s0 h
      refine tw_tableIn (off := 28) (tgt := 36) hO dX7_at_8 (by rw [s0]; decide) (by rw [s0]; decide) (by rw [s0]; rfl) (by decide) ?_
      refine tw_aload_n 0 hO dX7_at_36 rfl rfl ?_
      obtain ⟨v37, e37, h⟩ := tw_bd h
      refine tw_getP hO dX7_at_37 (t := 7) rfl 1 (by decide) rfl tw_w244 rfl e37 ?_
      refine tw_iload_n 1 hO dX7_at_40 rfl rfl ?_
      obtain ⟨v41, e41, h⟩ := tw_bd h
      refine tw_cVi hO (mX5_starterIn l G e41) cfX5_starterIn (t := 5) rfl (kX5_starterIn e41) tw_w513 tw_w514 tw_w515 rfl rfl rfl rfl ⟨(Nat.le_of_ble_eq_true rfl), (Nat.le_of_ble_eq_true rfl)⟩ (Nat.le_of_ble_eq_true rfl) ⟨(Nat.le_of_ble_eq_true rfl), (Nat.le_of_ble_eq_true rfl)⟩ dX7_at_41 ?_
      exact tw_iretR hO dX7_at_44 h
    replace h := tw_ifn s0 h
    by_cases s1 : x2 = 1
    · replace h := tw_ifp s1 h
      refine tw_tableIn (off := 37) (tgt := 45) hO dX7_at_8 (by rw [s1]; decide) (by rw [s1]; decide) (by rw [s1]; rfl) (by decide) ?_
      refine tw_aload_n 0 hO dX7_at_45 rfl rfl ?_
      obtain ⟨v46, e46, h⟩ := tw_bd h
      refine tw_getP hO dX7_at_46 (t := 7) rfl 1 (by decide) rfl tw_w244 rfl e46 ?_
      refine tw_iload_n 1 hO dX7_at_49 rfl rfl ?_
      refine tw_iconst (v := 0) hO dX7_at_50 (by decide) ?_
      obtain ⟨v51, e51, h⟩ := tw_bd h
      refine tw_cVi hO (mX5_userIn l G e51) cfX5_userIn (t := 5) rfl (kX5_userIn e51) tw_w517 tw_w518 tw_w519 rfl rfl rfl rfl ⟨(Nat.le_of_ble_eq_true rfl), (Nat.le_of_ble_eq_true rfl)⟩ (Nat.le_of_ble_eq_true rfl) ⟨(Nat.le_of_ble_eq_true rfl), (Nat.le_of_ble_eq_true rfl)⟩ dX7_at_51 ?_
      exact tw_iretR hO dX7_at_54 h
    replace h := tw_ifn s1 h
    by_cases s2 : x2 = 2
    · replace h := tw_ifp s2 h
      refine tw_tableIn (off := 47) (tgt := 55) hO dX7_at_8 (by rw [s2]; decide) (by rw [s2]; decide) (by rw [s2]; rfl) (by decide) ?_
      refine tw_aload_n 0 hO dX7_at_55 rfl rfl ?_
      obtain ⟨v56, e56, h⟩ := tw_bd h
      refine tw_getP hO dX7_at_56 (t := 7) rfl 1 (by decide) rfl tw_w244 rfl e56 ?_
      refine tw_iload_n 1 hO dX7_at_59 rfl rfl ?_
      refine tw_iconst (v := 1) hO dX7_at_60 (by decide) ?_
      obtain ⟨v61, e61, h⟩ := tw_bd h
      refine tw_cVi hO (mX5_userIn l G e61) cfX5_userIn (t := 5) rfl (kX5_userIn e61) tw_w517 tw_w518 tw_w519 rfl rfl rfl rfl ⟨(Nat.le_of_ble_eq_true rfl), (Nat.le_of_ble_eq_true rfl)⟩ (Nat.le_of_ble_eq_true rfl) ⟨(Nat.le_of_ble_eq_true rfl), (Nat.le_of_ble_eq_true rfl)⟩ dX7_at_61 ?_
      exact tw_iretR hO dX7_at_64 h
    replace h := tw_ifn s2 h
    refine tw_tableOut (tgt := 65) hO dX7_at_8 (by have n0 := lv_neT (a := 0) s0 rfl; have n1 := lv_neT (a := 1) s1 rfl; have n2 := lv_neT (a := 2) s2 rfl; omega) (by decide) ?_
    refine tw_bipush (v := (-2)) hO dX7_at_65 (by decide) ?_
    exact tw_iretR hO dX7_at_67 h
  · replace h := tw_ifn cc h
    refine tw_bipush (v := (-2)) hO dX7_at_4 (by decide) ?_
    exact tw_iretR hO dX7_at_6 h
theorem cfX7_count : tw_CF yX7_count cX7_count 2 (some .int) 1 := ⟨tw_w524, tw_w48, by decide +kernel, by decide +kernel, by decide +kernel⟩
theorem kX7_count {σ : tw_St} {a : Nat} {x1 : Int32} {q : Int32} (h : fX7_count σ a x1 = some q) : tw_is σ 7 a = some () := by
  unfold fX7_count at h
  obtain ⟨_, e1, -⟩ := tw_bd h
  exact e1
set_option maxRecDepth 100000 in
set_option maxHeartbeats 4000000 in
theorem mX7_count (l : Launch) (G : tw_G) {σ : tw_St} {a : Nat} {x1 : Int32} {q : Int32} (h : fX7_count σ a x1 = some q) : tw_M l G yX7_count cX7_count 2 (some .int) rmX7_count 0 0 σ [.ref a, .int x1] (some (.int q)) σ := by
  unfold fX7_count at h
  obtain ⟨_, -, h⟩ := tw_bd h
  refine tw_M.of (by decide +kernel) (Nat.le_of_ble_eq_true rfl) (fun p e s m args below meth c hnm hO => ?_)
  have hO : tw_O p s m args meth c cX7_count RX7 2 (some .int) G := hO
  refine tw_iload_n 1 hO dX7_count_0 rfl rfl ?_
  by_cases s0 : x1 = 0
  · replace h := tw_ifp s0 h
    refine tw_tableIn (off := 55) (tgt := 56) hO dX7_count_1 (by rw [s0]; decide) (by rw [s0]; decide) (by rw [s0]; rfl) (by decide) ?_
    refine tw_aload_n 0 hO dX7_count_56 rfl rfl ?_
    obtain ⟨v57, e57, h⟩ := tw_bd h
    refine tw_getP hO dX7_count_57 (t := 7) rfl 1 (by decide) rfl tw_w244 rfl e57 ?_
    obtain ⟨v60, e60, h⟩ := tw_bd h
    refine tw_cVi hO (mX5_length l G e60) cfX5_length (t := 5) rfl (kX5_length e60) tw_w479 tw_w480 tw_w481 rfl rfl rfl rfl ⟨(Nat.le_of_ble_eq_true rfl), (Nat.le_of_ble_eq_true rfl)⟩ (Nat.le_of_ble_eq_true rfl) ⟨(Nat.le_of_ble_eq_true rfl), (Nat.le_of_ble_eq_true rfl)⟩ dX7_count_60 ?_
    exact tw_iretR hO dX7_count_63 h
  replace h := tw_ifn s0 h
  by_cases s1 : x1 = 1
  · replace h := tw_ifp s1 h
    refine tw_tableIn (off := 63) (tgt := 64) hO dX7_count_1 (by rw [s1]; decide) (by rw [s1]; decide) (by rw [s1]; rfl) (by decide) ?_
    refine tw_aload_n 0 hO dX7_count_64 rfl rfl ?_
    obtain ⟨v65, e65, h⟩ := tw_bd h
    refine tw_getP hO dX7_count_65 (t := 7) rfl 1 (by decide) rfl tw_w244 rfl e65 ?_
    obtain ⟨v68, e68, h⟩ := tw_bd h
    refine tw_getP hO dX7_count_68 (t := 5) rfl 1 (by decide) rfl tw_w144 rfl e68 ?_
    refine tw_iconst (v := 0) hO dX7_count_71 (by decide) ?_
    obtain ⟨v72, e72, h⟩ := tw_bd h
    refine tw_iald hO dX7_count_72 e72 ?_
    refine tw_aload_n 0 hO dX7_count_73 rfl rfl ?_
    obtain ⟨v74, e74, h⟩ := tw_bd h
    refine tw_getP hO dX7_count_74 (t := 7) rfl 1 (by decide) rfl tw_w244 rfl e74 ?_
    obtain ⟨v77, e77, h⟩ := tw_bd h
    refine tw_getP hO dX7_count_77 (t := 5) rfl 1 (by decide) rfl tw_w144 rfl e77 ?_
    refine tw_iconst (v := 1) hO dX7_count_80 (by decide) ?_
    obtain ⟨v81, e81, h⟩ := tw_bd h
    refine tw_iald hO dX7_count_81 e81 ?_
    refine tw_iadd hO dX7_count_82 ?_
    exact tw_iretR hO dX7_count_83 h
  replace h := tw_ifn s1 h
  by_cases s2 : x1 = 2
  · replace h := tw_ifp s2 h
    refine tw_tableIn (off := 83) (tgt := 84) hO dX7_count_1 (by rw [s2]; decide) (by rw [s2]; decide) (by rw [s2]; rfl) (by decide) ?_
    refine tw_aload_n 0 hO dX7_count_84 rfl rfl ?_
    obtain ⟨v85, e85, h⟩ := tw_bd h
    refine tw_getP hO dX7_count_85 (t := 7) rfl 1 (by decide) rfl tw_w244 rfl e85 ?_
    obtain ⟨v88, e88, h⟩ := tw_bd h
    refine tw_cVi hO (mX5_length l G e88) cfX5_length (t := 5) rfl (kX5_length e88) tw_w479 tw_w480 tw_w481 rfl rfl rfl rfl ⟨(Nat.le_of_ble_eq_true rfl), (Nat.le_of_ble_eq_true rfl)⟩ (Nat.le_of_ble_eq_true rfl) ⟨(Nat.le_of_ble_eq_true rfl), (Nat.le_of_ble_eq_true rfl)⟩ dX7_count_88 ?_
    refine tw_aload_n 0 hO dX7_count_91 rfl rfl ?_
    obtain ⟨v92, e92, h⟩ := tw_bd h
    refine tw_getP hO dX7_count_92 (t := 7) rfl 1 (by decide) rfl tw_w244 rfl e92 ?_
    obtain ⟨v95, e95, h⟩ := tw_bd h
    refine tw_getP hO dX7_count_95 (t := 5) rfl 1 (by decide) rfl tw_w144 rfl e95 ?_
    refine tw_iconst (v := 0) hO dX7_count_98 (by decide) ?_
    obtain ⟨v99, e99, h⟩ := tw_bd h
    refine tw_iald hO dX7_count_99 e99 ?_
    refine tw_isub hO dX7_count_100 ?_
    refine tw_aload_n 0 hO dX7_count_101 rfl rfl ?_
    obtain ⟨v102, e102, h⟩ := tw_bd h
    refine tw_getP hO dX7_count_102 (t := 7) rfl 1 (by decide) rfl tw_w244 rfl e102 ?_
    obtain ⟨v105, e105, h⟩ := tw_bd h
    refine tw_getP hO dX7_count_105 (t := 5) rfl 1 (by decide) rfl tw_w144 rfl e105 ?_
    refine tw_iconst (v := 1) hO dX7_count_108 (by decide) ?_
    obtain ⟨v109, e109, h⟩ := tw_bd h
    refine tw_iald hO dX7_count_109 e109 ?_
    refine tw_isub hO dX7_count_110 ?_
    exact tw_iretR hO dX7_count_111 h
  replace h := tw_ifn s2 h
  by_cases s3 : x1 = 3
  · replace h := tw_ifp s3 h
    refine tw_tableIn (off := 111) (tgt := 112) hO dX7_count_1 (by rw [s3]; decide) (by rw [s3]; decide) (by rw [s3]; rfl) (by decide) ?_
    refine tw_aload_n 0 hO dX7_count_112 rfl rfl ?_
    obtain ⟨v113, e113, h⟩ := tw_bd h
    refine tw_getP hO dX7_count_113 (t := 7) rfl 1 (by decide) rfl tw_w244 rfl e113 ?_
    refine tw_iconst (v := 0) hO dX7_count_116 (by decide) ?_
    obtain ⟨v117, e117, h⟩ := tw_bd h
    refine tw_cVi hO (mX5_ticksIn l G e117) cfX5_ticksIn (t := 5) rfl (kX5_ticksIn e117) tw_w525 tw_w526 tw_w527 rfl rfl rfl rfl ⟨(Nat.le_of_ble_eq_true rfl), (Nat.le_of_ble_eq_true rfl)⟩ (Nat.le_of_ble_eq_true rfl) ⟨(Nat.le_of_ble_eq_true rfl), (Nat.le_of_ble_eq_true rfl)⟩ dX7_count_117 ?_
    exact tw_iretR hO dX7_count_120 h
  replace h := tw_ifn s3 h
  by_cases s4 : x1 = 4
  · replace h := tw_ifp s4 h
    refine tw_tableIn (off := 120) (tgt := 121) hO dX7_count_1 (by rw [s4]; decide) (by rw [s4]; decide) (by rw [s4]; rfl) (by decide) ?_
    refine tw_aload_n 0 hO dX7_count_121 rfl rfl ?_
    obtain ⟨v122, e122, h⟩ := tw_bd h
    refine tw_getP hO dX7_count_122 (t := 7) rfl 1 (by decide) rfl tw_w244 rfl e122 ?_
    refine tw_iconst (v := 1) hO dX7_count_125 (by decide) ?_
    obtain ⟨v126, e126, h⟩ := tw_bd h
    refine tw_cVi hO (mX5_ticksIn l G e126) cfX5_ticksIn (t := 5) rfl (kX5_ticksIn e126) tw_w525 tw_w526 tw_w527 rfl rfl rfl rfl ⟨(Nat.le_of_ble_eq_true rfl), (Nat.le_of_ble_eq_true rfl)⟩ (Nat.le_of_ble_eq_true rfl) ⟨(Nat.le_of_ble_eq_true rfl), (Nat.le_of_ble_eq_true rfl)⟩ dX7_count_126 ?_
    exact tw_iretR hO dX7_count_129 h
  replace h := tw_ifn s4 h
  by_cases s5 : x1 = 5
  · replace h := tw_ifp s5 h
    refine tw_tableIn (off := 129) (tgt := 130) hO dX7_count_1 (by rw [s5]; decide) (by rw [s5]; decide) (by rw [s5]; rfl) (by decide) ?_
    refine tw_aload_n 0 hO dX7_count_130 rfl rfl ?_
    obtain ⟨v131, e131, h⟩ := tw_bd h
    refine tw_getP hO dX7_count_131 (t := 7) rfl 4 (by decide) rfl tw_w247 rfl e131 ?_
    obtain ⟨v134, e134, h⟩ := tw_bd h
    refine tw_getI hO dX7_count_134 (t := 1) rfl 0 (by decide) rfl tw_w192 rfl e134 ?_
    exact tw_iretR hO dX7_count_137 h
  replace h := tw_ifn s5 h
  by_cases s6 : x1 = 6
  · replace h := tw_ifp s6 h
    refine tw_tableIn (off := 137) (tgt := 138) hO dX7_count_1 (by rw [s6]; decide) (by rw [s6]; decide) (by rw [s6]; rfl) (by decide) ?_
    refine tw_aload_n 0 hO dX7_count_138 rfl rfl ?_
    obtain ⟨v139, e139, h⟩ := tw_bd h
    refine tw_getP hO dX7_count_139 (t := 7) rfl 6 (by decide) rfl tw_w249 rfl e139 ?_
    obtain ⟨v142, e142, h⟩ := tw_bd h
    refine tw_getI hO dX7_count_142 (t := 0) rfl 0 (by decide) rfl tw_w233 rfl e142 ?_
    exact tw_iretR hO dX7_count_145 h
  replace h := tw_ifn s6 h
  by_cases s7 : x1 = 7
  · replace h := tw_ifp s7 h
    refine tw_tableIn (off := 145) (tgt := 146) hO dX7_count_1 (by rw [s7]; decide) (by rw [s7]; decide) (by rw [s7]; rfl) (by decide) ?_
    refine tw_aload_n 0 hO dX7_count_146 rfl rfl ?_
    obtain ⟨v147, e147, h⟩ := tw_bd h
    refine tw_getP hO dX7_count_147 (t := 7) rfl 0 (by decide) rfl tw_w243 rfl e147 ?_
    obtain ⟨v150, e150, h⟩ := tw_bd h
    refine tw_getP hO dX7_count_150 (t := 6) rfl 0 (by decide) rfl tw_w94 rfl e150 ?_
    refine tw_iconst (v := 0) hO dX7_count_153 (by decide) ?_
    obtain ⟨v154, e154, h⟩ := tw_bd h
    refine tw_iald hO dX7_count_154 e154 ?_
    exact tw_iretR hO dX7_count_155 h
  replace h := tw_ifn s7 h
  by_cases s8 : x1 = 8
  · replace h := tw_ifp s8 h
    refine tw_tableIn (off := 155) (tgt := 156) hO dX7_count_1 (by rw [s8]; decide) (by rw [s8]; decide) (by rw [s8]; rfl) (by decide) ?_
    refine tw_aload_n 0 hO dX7_count_156 rfl rfl ?_
    obtain ⟨v157, e157, h⟩ := tw_bd h
    refine tw_getP hO dX7_count_157 (t := 7) rfl 0 (by decide) rfl tw_w243 rfl e157 ?_
    obtain ⟨v160, e160, h⟩ := tw_bd h
    refine tw_getP hO dX7_count_160 (t := 6) rfl 0 (by decide) rfl tw_w94 rfl e160 ?_
    refine tw_iconst (v := 1) hO dX7_count_163 (by decide) ?_
    obtain ⟨v164, e164, h⟩ := tw_bd h
    refine tw_iald hO dX7_count_164 e164 ?_
    exact tw_iretR hO dX7_count_165 h
  replace h := tw_ifn s8 h
  by_cases s9 : x1 = 9
  · replace h := tw_ifp s9 h
    refine tw_tableIn (off := 165) (tgt := 166) hO dX7_count_1 (by rw [s9]; decide) (by rw [s9]; decide) (by rw [s9]; rfl) (by decide) ?_
    refine tw_aload_n 0 hO dX7_count_166 rfl rfl ?_
    obtain ⟨v167, e167, h⟩ := tw_bd h
    refine tw_getP hO dX7_count_167 (t := 7) rfl 0 (by decide) rfl tw_w243 rfl e167 ?_
    obtain ⟨v170, e170, h⟩ := tw_bd h
    refine tw_getP hO dX7_count_170 (t := 6) rfl 0 (by decide) rfl tw_w94 rfl e170 ?_
    refine tw_iconst (v := 2) hO dX7_count_173 (by decide) ?_
    obtain ⟨v174, e174, h⟩ := tw_bd h
    refine tw_iald hO dX7_count_174 e174 ?_
    exact tw_iretR hO dX7_count_175 h
  replace h := tw_ifn s9 h
  refine tw_tableOut (tgt := 176) hO dX7_count_1 (by have n0 := lv_neT (a := 0) s0 rfl; have n1 := lv_neT (a := 1) s1 rfl; have n2 := lv_neT (a := 2) s2 rfl; have n3 := lv_neT (a := 3) s3 rfl; have n4 := lv_neT (a := 4) s4 rfl; have n5 := lv_neT (a := 5) s5 rfl; have n6 := lv_neT (a := 6) s6 rfl; have n7 := lv_neT (a := 7) s7 rfl; have n8 := lv_neT (a := 8) s8 rfl; have n9 := lv_neT (a := 9) s9 rfl; omega) (by decide) ?_
  refine tw_bipush (v := (-2)) hO dX7_count_176 (by decide) ?_
  exact tw_iretR hO dX7_count_178 h
theorem cfX7_alone : tw_CF yX7_alone cX7_alone 2 (some .int) 1 := ⟨tw_w533, tw_w48, by decide +kernel, by decide +kernel, by decide +kernel⟩
theorem kX7_alone {σ : tw_St} {a : Nat} {x1 : Int32} {q : Int32 × tw_St} (h : fX7_alone σ a x1 = some q) : tw_is σ 7 a = some () := by
  unfold fX7_alone at h
  obtain ⟨_, e1, -⟩ := tw_bd h
  exact e1
set_option maxRecDepth 100000 in
set_option maxHeartbeats 4000000 in
theorem mX7_alone (l : Launch) (G : tw_G) {σ : tw_St} {a : Nat} {x1 : Int32} {q : Int32 × tw_St} (h : fX7_alone σ a x1 = some q) : tw_M l G yX7_alone cX7_alone 2 (some .int) rmX7_alone 0 0 σ [.ref a, .int x1] (some (.int q.1)) q.2 := by
  unfold fX7_alone at h
  obtain ⟨_, -, h⟩ := tw_bd h
  refine tw_M.of (by decide +kernel) (Nat.le_of_ble_eq_true rfl) (fun p e s m args below meth c hnm hO => ?_)
  have hO : tw_O p s m args meth c cX7_alone RX7 2 (some .int) G := hO
  refine tw_iload_n 1 hO dX7_alone_0 rfl rfl ?_
  obtain ⟨v1, e1, h⟩ := tw_bd h
  refine tw_cSi hO (mX7_isThread l G e1) cfX7_isThread tw_w459 tw_w460 rfl rfl rfl rfl ⟨(Nat.le_of_ble_eq_true rfl), (Nat.le_of_ble_eq_true rfl)⟩ (Nat.le_of_ble_eq_true rfl) ⟨(Nat.le_of_ble_eq_true rfl), (Nat.le_of_ble_eq_true rfl)⟩ dX7_alone_1 ?_
  refine tw_if_ne (tgt := 9) hO dX7_alone_4 (by decide) (fun cc => ?_) (fun cc => ?_)
  · replace h := tw_ifn cc h
    refine tw_aload_n 0 hO dX7_alone_9 rfl rfl ?_
    obtain ⟨v10, e10, h⟩ := tw_bd h
    refine tw_getP hO dX7_alone_10 (t := 7) rfl 2 (by decide) rfl tw_w245 rfl e10 ?_
    refine tw_aload_n 0 hO dX7_alone_13 rfl rfl ?_
    obtain ⟨v14, e14, h⟩ := tw_bd h
    refine tw_getP hO dX7_alone_14 (t := 7) rfl 0 (by decide) rfl tw_w243 rfl e14 ?_
    obtain ⟨σ17, e17, h⟩ := tw_bd h
    refine tw_cVv hO (mX6_copyFrom l G e17) cfX6_copyFrom (t := 6) rfl (kX6_copyFrom e17) tw_w534 tw_w285 tw_w286 rfl rfl rfl rfl ⟨(Nat.le_of_ble_eq_true rfl), (Nat.le_of_ble_eq_true rfl)⟩ (Nat.le_of_ble_eq_true rfl) ⟨(Nat.le_of_ble_eq_true rfl), (Nat.le_of_ble_eq_true rfl)⟩ dX7_alone_17 ?_
    refine tw_aload_n 0 hO dX7_alone_20 rfl rfl ?_
    obtain ⟨v21, e21, h⟩ := tw_bd h
    refine tw_getP hO dX7_alone_21 (t := 7) rfl 2 (by decide) rfl tw_w245 rfl e21 ?_
    obtain ⟨v24, e24, h⟩ := tw_bd h
    refine tw_getP hO dX7_alone_24 (t := 6) rfl 1 (by decide) rfl tw_w98 rfl e24 ?_
    refine tw_iconst (v := 1) hO dX7_alone_27 (by decide) ?_
    refine tw_iload_n 1 hO dX7_alone_28 rfl rfl ?_
    refine tw_isub hO dX7_alone_29 ?_
    obtain ⟨v30, e30, h⟩ := tw_bd h
    refine tw_aald hO dX7_alone_30 (by decide) (by decide) e30 ?_
    refine tw_iconst (v := 0) hO dX7_alone_31 (by decide) ?_
    obtain ⟨σ32, e32, h⟩ := tw_bd h
    refine tw_putI hO dX7_alone_32 (t := 3) rfl 0 (by decide) rfl tw_w83 rfl rfl ⟨rfl, rfl⟩ e32 ?_
    refine tw_aload_n 0 hO dX7_alone_35 rfl rfl ?_
    obtain ⟨v36, e36, h⟩ := tw_bd h
    refine tw_getP hO dX7_alone_36 (t := 7) rfl 3 (by decide) rfl tw_w246 rfl e36 ?_
    refine tw_bipush (v := (-6)) hO dX7_alone_39 (by decide) ?_
    obtain ⟨σ41, e41, h⟩ := tw_bd h
    refine tw_cVv hO (mX5_play l G e41) cfX5_play (t := 5) rfl (kX5_play e41) tw_w296 tw_w297 tw_w298 rfl rfl rfl rfl ⟨(Nat.le_of_ble_eq_true rfl), (Nat.le_of_ble_eq_true rfl)⟩ (Nat.le_of_ble_eq_true rfl) ⟨(Nat.le_of_ble_eq_true rfl), (Nat.le_of_ble_eq_true rfl)⟩ dX7_alone_41 ?_
    refine tw_aload_n 0 hO dX7_alone_44 rfl rfl ?_
    obtain ⟨v45, e45, h⟩ := tw_bd h
    refine tw_getP hO dX7_alone_45 (t := 7) rfl 3 (by decide) rfl tw_w246 rfl e45 ?_
    obtain ⟨v48, e48, h⟩ := tw_bd h
    refine tw_cVi hO (mX5_length l G e48) cfX5_length (t := 5) rfl (kX5_length e48) tw_w479 tw_w480 tw_w481 rfl rfl rfl rfl ⟨(Nat.le_of_ble_eq_true rfl), (Nat.le_of_ble_eq_true rfl)⟩ (Nat.le_of_ble_eq_true rfl) ⟨(Nat.le_of_ble_eq_true rfl), (Nat.le_of_ble_eq_true rfl)⟩ dX7_alone_48 ?_
    exact tw_iret hO dX7_alone_51 h
  · replace h := tw_ifp cc h
    refine tw_iconst (v := (-1)) hO dX7_alone_7 (by decide) ?_
    exact tw_iret hO dX7_alone_8 h
theorem cfX7_lengthByTurns : tw_CF yX7_lengthByTurns cX7_lengthByTurns 2 (some .int) 1 := ⟨tw_w542, tw_w48, by decide +kernel, by decide +kernel, by decide +kernel⟩
theorem kX7_lengthByTurns {σ : tw_St} {a : Nat} {x1 : Int32} {q : Int32 × tw_St} (h : fX7_lengthByTurns σ a x1 = some q) : tw_is σ 7 a = some () := by
  unfold fX7_lengthByTurns at h
  obtain ⟨_, e1, -⟩ := tw_bd h
  exact e1
set_option maxRecDepth 100000 in
set_option maxHeartbeats 4000000 in
theorem mX7_lengthByTurns (l : Launch) (G : tw_G) {σ : tw_St} {a : Nat} {x1 : Int32} {q : Int32 × tw_St} (h : fX7_lengthByTurns σ a x1 = some q) : tw_M l G yX7_lengthByTurns cX7_lengthByTurns 2 (some .int) rmX7_lengthByTurns 0 0 σ [.ref a, .int x1] (some (.int q.1)) q.2 := by
  unfold fX7_lengthByTurns at h
  obtain ⟨_, -, h⟩ := tw_bd h
  refine tw_M.of (by decide +kernel) (Nat.le_of_ble_eq_true rfl) (fun p e s m args below meth c hnm hO => ?_)
  have hO : tw_O p s m args meth c cX7_lengthByTurns RX7 2 (some .int) G := hO
  refine tw_aload_n 0 hO dX7_lengthByTurns_0 rfl rfl ?_
  obtain ⟨v1, e1, h⟩ := tw_bd h
  refine tw_getP hO dX7_lengthByTurns_1 (t := 7) rfl 2 (by decide) rfl tw_w245 rfl e1 ?_
  refine tw_aload_n 0 hO dX7_lengthByTurns_4 rfl rfl ?_
  obtain ⟨v5, e5, h⟩ := tw_bd h
  refine tw_getP hO dX7_lengthByTurns_5 (t := 7) rfl 0 (by decide) rfl tw_w243 rfl e5 ?_
  obtain ⟨σ8, e8, h⟩ := tw_bd h
  refine tw_cVv hO (mX6_copyFrom l G e8) cfX6_copyFrom (t := 6) rfl (kX6_copyFrom e8) tw_w534 tw_w285 tw_w286 rfl rfl rfl rfl ⟨(Nat.le_of_ble_eq_true rfl), (Nat.le_of_ble_eq_true rfl)⟩ (Nat.le_of_ble_eq_true rfl) ⟨(Nat.le_of_ble_eq_true rfl), (Nat.le_of_ble_eq_true rfl)⟩ dX7_lengthByTurns_8 ?_
  refine tw_aload_n 0 hO dX7_lengthByTurns_11 rfl rfl ?_
  obtain ⟨v12, e12, h⟩ := tw_bd h
  refine tw_getP hO dX7_lengthByTurns_12 (t := 7) rfl 2 (by decide) rfl tw_w245 rfl e12 ?_
  obtain ⟨v15, e15, h⟩ := tw_bd h
  refine tw_getP hO dX7_lengthByTurns_15 (t := 6) rfl 0 (by decide) rfl tw_w94 rfl e15 ?_
  refine tw_iconst (v := 0) hO dX7_lengthByTurns_18 (by decide) ?_
  refine tw_iload_n 1 hO dX7_lengthByTurns_19 rfl rfl ?_
  obtain ⟨σ20, e20, h⟩ := tw_bd h
  refine tw_iast hO dX7_lengthByTurns_20 e20 ?_
  refine tw_aload_n 0 hO dX7_lengthByTurns_21 rfl rfl ?_
  obtain ⟨v22, e22, h⟩ := tw_bd h
  refine tw_getP hO dX7_lengthByTurns_22 (t := 7) rfl 3 (by decide) rfl tw_w246 rfl e22 ?_
  refine tw_bipush (v := (-6)) hO dX7_lengthByTurns_25 (by decide) ?_
  obtain ⟨σ27, e27, h⟩ := tw_bd h
  refine tw_cVv hO (mX5_play l G e27) cfX5_play (t := 5) rfl (kX5_play e27) tw_w296 tw_w297 tw_w298 rfl rfl rfl rfl ⟨(Nat.le_of_ble_eq_true rfl), (Nat.le_of_ble_eq_true rfl)⟩ (Nat.le_of_ble_eq_true rfl) ⟨(Nat.le_of_ble_eq_true rfl), (Nat.le_of_ble_eq_true rfl)⟩ dX7_lengthByTurns_27 ?_
  refine tw_aload_n 0 hO dX7_lengthByTurns_30 rfl rfl ?_
  obtain ⟨v31, e31, h⟩ := tw_bd h
  refine tw_getP hO dX7_lengthByTurns_31 (t := 7) rfl 3 (by decide) rfl tw_w246 rfl e31 ?_
  obtain ⟨v34, e34, h⟩ := tw_bd h
  refine tw_cVi hO (mX5_length l G e34) cfX5_length (t := 5) rfl (kX5_length e34) tw_w479 tw_w480 tw_w481 rfl rfl rfl rfl ⟨(Nat.le_of_ble_eq_true rfl), (Nat.le_of_ble_eq_true rfl)⟩ (Nat.le_of_ble_eq_true rfl) ⟨(Nat.le_of_ble_eq_true rfl), (Nat.le_of_ble_eq_true rfl)⟩ dX7_lengthByTurns_34 ?_
  exact tw_iret hO dX7_lengthByTurns_37 h
theorem cfX7_lengthWith : tw_CF yX7_lengthWith cX7_lengthWith 2 (some .int) 1 := ⟨tw_w538, tw_w48, by decide +kernel, by decide +kernel, by decide +kernel⟩
theorem kX7_lengthWith {σ : tw_St} {a : Nat} {x1 : Int32} {q : Int32 × tw_St} (h : fX7_lengthWith σ a x1 = some q) : tw_is σ 7 a = some () := by
  unfold fX7_lengthWith at h
  obtain ⟨_, e1, -⟩ := tw_bd h
  exact e1
set_option maxRecDepth 100000 in
set_option maxHeartbeats 4000000 in
theorem mX7_lengthWith (l : Launch) (G : tw_G) {σ : tw_St} {a : Nat} {x1 : Int32} {q : Int32 × tw_St} (h : fX7_lengthWith σ a x1 = some q) : tw_M l G yX7_lengthWith cX7_lengthWith 2 (some .int) rmX7_lengthWith 0 0 σ [.ref a, .int x1] (some (.int q.1)) q.2 := by
  unfold fX7_lengthWith at h
  obtain ⟨_, -, h⟩ := tw_bd h
  refine tw_M.of (by decide +kernel) (Nat.le_of_ble_eq_true rfl) (fun p e s m args below meth c hnm hO => ?_)
  have hO : tw_O p s m args meth c cX7_lengthWith RX7 2 (some .int) G := hO
  refine tw_iload_n 1 hO dX7_lengthWith_0 rfl rfl ?_
  refine tw_gsL hO dX7_lengthWith_1 tw_w276 ?_
  refine tw_iconst (v := 0) hO dX7_lengthWith_4 (by decide) ?_
  obtain ⟨v5, e5, h⟩ := tw_bd h
  refine tw_ldL hO dX7_lengthWith_5 e5 ?_
  refine tw_icmp_lt (tgt := 18) hO dX7_lengthWith_6 (by decide) (fun cc => ?_) (fun cc => ?_)
  · replace h := tw_ifp cc h
    refine tw_bipush (v := (-2)) hO dX7_lengthWith_18 (by decide) ?_
    exact tw_iret hO dX7_lengthWith_20 h
  · replace h := tw_ifn cc h
    refine tw_iload_n 1 hO dX7_lengthWith_9 rfl rfl ?_
    refine tw_gsH hO dX7_lengthWith_10 tw_w278 ?_
    refine tw_iconst (v := 0) hO dX7_lengthWith_13 (by decide) ?_
    obtain ⟨v14, e14, h⟩ := tw_bd h
    refine tw_ldH hO dX7_lengthWith_14 e14 ?_
    refine tw_icmp_le (tgt := 21) hO dX7_lengthWith_15 (by decide) (fun cc => ?_) (fun cc => ?_)
    · replace h := tw_ifp cc h
      refine tw_aload_n 0 hO dX7_lengthWith_21 rfl rfl ?_
      refine tw_iload_n 1 hO dX7_lengthWith_22 rfl rfl ?_
      obtain ⟨q23, e23, h⟩ := tw_bd h
      refine tw_cVi hO (mX7_lengthByTurns l G e23) cfX7_lengthByTurns (t := 7) rfl (kX7_lengthByTurns e23) tw_w539 tw_w541 tw_w19 rfl rfl rfl rfl ⟨(Nat.le_of_ble_eq_true rfl), (Nat.le_of_ble_eq_true rfl)⟩ (Nat.le_of_ble_eq_true rfl) ⟨(Nat.le_of_ble_eq_true rfl), (Nat.le_of_ble_eq_true rfl)⟩ dX7_lengthWith_23 ?_
      exact tw_iret hO dX7_lengthWith_26 h
    · replace h := tw_ifn cc h
      refine tw_bipush (v := (-2)) hO dX7_lengthWith_18 (by decide) ?_
      exact tw_iret hO dX7_lengthWith_20 h
theorem cfX7_bestTurns : tw_CF yX7_bestTurns cX7_bestTurns 5 (some .int) 0 := ⟨tw_w546, tw_w48, by decide +kernel, by decide +kernel, by decide +kernel⟩
theorem kX7_bestTurns {σ : tw_St} {a : Nat} {q : Int32 × tw_St} (h : fX7_bestTurns σ a = some q) : tw_is σ 7 a = some () := by
  unfold fX7_bestTurns at h
  obtain ⟨_, e1, -⟩ := tw_bd h
  exact e1
set_option maxRecDepth 100000 in
set_option maxHeartbeats 4000000 in
theorem wX7_bestTurns_b43 (hO : tw_O p s m args meth c cX7_bestTurns RX7 5 (some .int) G) {k16 : (tw_St → Nat → Int32 → Int32 → Int32 → Option (Int32 × tw_St))} (hk16 : ∀ (σ : tw_St) (a0 : Nat) (x1 : Int32) (x2 : Int32) (x3 : Int32) (q : Int32 × tw_St), k16 σ a0 x1 x2 x3 = some q → tw_X p l e rmX7_bestTurns s m args below meth c 5 G σ 0 0 (tw_Q below args s G 0 0 (some (.int q.1)) q.2) 16 [(0, .ref a0), (1, .int x1), (2, .int x2), (3, .int x3)] []) {σ : tw_St} {a0 : Nat} {x1 : Int32} {x2 : Int32} {x3 : Int32} {q : Int32 × tw_St} (h : fX7_bestTurns_b43 k16 σ a0 x1 x2 x3 = some q) : tw_X p l e rmX7_bestTurns s m args below meth c 5 G σ 0 0 (tw_Q below args s G 0 0 (some (.int q.1)) q.2) 43 [(0, .ref a0), (1, .int x1), (2, .int x2), (3, .int x3)] [] := by
  unfold fX7_bestTurns_b43 at h
  refine tw_iinc (q := 3) (v := (x3 + 1)) (lv' := [(3, .int (x3 + 1)), (0, .ref a0), (1, .int x1), (2, .int x2)]) hO dX7_bestTurns_43 rfl rfl (by decide) rfl ?_
  refine tw_goto (tgt := 16) hO dX7_bestTurns_46 (by decide) ?_
  refine tw_sub [1, 2, 3, 0] rfl ?_
  exact hk16 _ _ _ _ _ _ h
set_option maxRecDepth 100000 in
set_option maxHeartbeats 4000000 in
theorem wX7_bestTurns_h16 (hO : tw_O p s m args meth c cX7_bestTurns RX7 5 (some .int) G) {k16 : (tw_St → Nat → Int32 → Int32 → Int32 → Option (Int32 × tw_St))} (hk16 : ∀ (σ : tw_St) (a0 : Nat) (x1 : Int32) (x2 : Int32) (x3 : Int32) (q : Int32 × tw_St), k16 σ a0 x1 x2 x3 = some q → tw_X p l e rmX7_bestTurns s m args below meth c 5 G σ 0 0 (tw_Q below args s G 0 0 (some (.int q.1)) q.2) 16 [(0, .ref a0), (1, .int x1), (2, .int x2), (3, .int x3)] []) {σ : tw_St} {a0 : Nat} {x1 : Int32} {x2 : Int32} {x3 : Int32} {q : Int32 × tw_St} (h : fX7_bestTurns_h16 k16 σ a0 x1 x2 x3 = some q) : tw_X p l e rmX7_bestTurns s m args below meth c 5 G σ 0 0 (tw_Q below args s G 0 0 (some (.int q.1)) q.2) 16 [(0, .ref a0), (1, .int x1), (2, .int x2), (3, .int x3)] [] := by
  unfold fX7_bestTurns_h16 at h
  refine tw_iload_n 3 hO dX7_bestTurns_16 rfl rfl ?_
  refine tw_gsH hO dX7_bestTurns_17 tw_w278 ?_
  refine tw_iconst (v := 0) hO dX7_bestTurns_20 (by decide) ?_
  obtain ⟨v21, e21, h⟩ := tw_bd h
  refine tw_ldH hO dX7_bestTurns_21 e21 ?_
  refine tw_icmp_gt (tgt := 49) hO dX7_bestTurns_22 (by decide) (fun cc => ?_) (fun cc => ?_)
  · replace h := tw_ifp cc h
    refine tw_iload_n 1 hO dX7_bestTurns_49 rfl rfl ?_
    exact tw_iret hO dX7_bestTurns_50 h
  · replace h := tw_ifn cc h
    refine tw_aload_n 0 hO dX7_bestTurns_25 rfl rfl ?_
    refine tw_iload_n 3 hO dX7_bestTurns_26 rfl rfl ?_
    obtain ⟨q27, e27, h⟩ := tw_bd h
    refine tw_cVi hO (mX7_lengthByTurns l G e27) cfX7_lengthByTurns (t := 7) rfl (kX7_lengthByTurns e27) tw_w539 tw_w541 tw_w19 rfl rfl rfl rfl ⟨(Nat.le_of_ble_eq_true rfl), (Nat.le_of_ble_eq_true rfl)⟩ (Nat.le_of_ble_eq_true rfl) ⟨(Nat.le_of_ble_eq_true rfl), (Nat.le_of_ble_eq_true rfl)⟩ dX7_bestTurns_27 ?_
    refine tw_istore (lv' := [(4, .int q27.1), (0, .ref a0), (1, .int x1), (2, .int x2), (3, .int x3)]) hO dX7_bestTurns_30 (by decide) rfl ?_
    refine tw_iload 0 hO dX7_bestTurns_32 rfl ?_
    refine tw_iload_n 3 hO dX7_bestTurns_34 rfl rfl ?_
    refine tw_icmp_ge (tgt := 43) hO dX7_bestTurns_35 (by decide) (fun cc => ?_) (fun cc => ?_)
    · replace h := tw_ifp cc h
      refine tw_sub [1, 2, 3, 4] rfl ?_
      exact wX7_bestTurns_b43 hO hk16 h
    · replace h := tw_ifn cc h
      refine tw_iload_n 4 hO dX7_bestTurns_38 rfl rfl ?_
      refine tw_istore_n (lv' := [(1, .int x3), (4, .int q27.1), (0, .ref a0), (2, .int x2), (3, .int x3)]) hO dX7_bestTurns_39 rfl (by decide) rfl ?_
      refine tw_iload 1 hO dX7_bestTurns_40 rfl ?_
      refine tw_istore_n (lv' := [(2, .int q27.1), (1, .int x3), (4, .int q27.1), (0, .ref a0), (3, .int x3)]) hO dX7_bestTurns_42 rfl (by decide) rfl ?_
      refine tw_sub [3, 1, 0, 4] rfl ?_
      exact wX7_bestTurns_b43 hO hk16 h
set_option maxRecDepth 100000 in
set_option maxHeartbeats 4000000 in
theorem wX7_bestTurns_l16 (hO : tw_O p s m args meth c cX7_bestTurns RX7 5 (some .int) G) : ∀ (n : Nat) (σ : tw_St) (a0 : Nat) (x1 : Int32) (x2 : Int32) (x3 : Int32) (q : Int32 × tw_St), fX7_bestTurns_l16 n σ a0 x1 x2 x3 = some q → tw_X p l e rmX7_bestTurns s m args below meth c 5 G σ 0 0 (tw_Q below args s G 0 0 (some (.int q.1)) q.2) 16 [(0, .ref a0), (1, .int x1), (2, .int x2), (3, .int x3)] [] := by
  intro n
  induction n with
  | zero => intro _ _ _ _ _ q h; cases (show (none : Option (Int32 × tw_St)) = some q from h)
  | succ n ih => intro _ _ _ _ _ q h; exact wX7_bestTurns_h16 hO ih h
set_option maxRecDepth 100000 in
set_option maxHeartbeats 4000000 in
theorem mX7_bestTurns (l : Launch) (G : tw_G) {σ : tw_St} {a : Nat} {q : Int32 × tw_St} (h : fX7_bestTurns σ a = some q) : tw_M l G yX7_bestTurns cX7_bestTurns 5 (some .int) rmX7_bestTurns 0 0 σ [.ref a] (some (.int q.1)) q.2 := by
  unfold fX7_bestTurns at h
  obtain ⟨_, -, h⟩ := tw_bd h
  refine tw_M.of (by decide +kernel) (Nat.le_of_ble_eq_true rfl) (fun p e s m args below meth c hnm hO => ?_)
  have hO : tw_O p s m args meth c cX7_bestTurns RX7 5 (some .int) G := hO
  refine tw_gsL hO dX7_bestTurns_0 tw_w276 ?_
  refine tw_iconst (v := 0) hO dX7_bestTurns_3 (by decide) ?_
  obtain ⟨v4, e4, h⟩ := tw_bd h
  refine tw_ldL hO dX7_bestTurns_4 e4 ?_
  refine tw_istore_n (lv' := [(1, .int v4), (0, .ref a)]) hO dX7_bestTurns_5 rfl (by decide) rfl ?_
  refine tw_aload_n 1 hO dX7_bestTurns_6 rfl rfl ?_
  refine tw_iload_n 0 hO dX7_bestTurns_7 rfl rfl ?_
  obtain ⟨q8, e8, h⟩ := tw_bd h
  refine tw_cVi hO (mX7_lengthByTurns l G e8) cfX7_lengthByTurns (t := 7) rfl (kX7_lengthByTurns e8) tw_w539 tw_w541 tw_w19 rfl rfl rfl rfl ⟨(Nat.le_of_ble_eq_true rfl), (Nat.le_of_ble_eq_true rfl)⟩ (Nat.le_of_ble_eq_true rfl) ⟨(Nat.le_of_ble_eq_true rfl), (Nat.le_of_ble_eq_true rfl)⟩ dX7_bestTurns_8 ?_
  refine tw_istore_n (lv' := [(2, .int q8.1), (1, .int v4), (0, .ref a)]) hO dX7_bestTurns_11 rfl (by decide) rfl ?_
  refine tw_iload_n 1 hO dX7_bestTurns_12 rfl rfl ?_
  refine tw_iconst (v := 1) hO dX7_bestTurns_13 (by decide) ?_
  refine tw_iadd hO dX7_bestTurns_14 ?_
  refine tw_istore_n (lv' := [(3, .int (v4 + 1)), (2, .int q8.1), (1, .int v4), (0, .ref a)]) hO dX7_bestTurns_15 rfl (by decide) rfl ?_
  refine tw_sub [3, 2, 1, 0] rfl ?_
  exact wX7_bestTurns_l16 hO _ _ _ _ _ _ _ h
theorem cfX7_lengthWithout : tw_CF yX7_lengthWithout cX7_lengthWithout 2 (some .int) 1 := ⟨tw_w550, tw_w48, by decide +kernel, by decide +kernel, by decide +kernel⟩
theorem kX7_lengthWithout {σ : tw_St} {a : Nat} {x1 : Int32} {q : Int32 × tw_St} (h : fX7_lengthWithout σ a x1 = some q) : tw_is σ 7 a = some () := by
  unfold fX7_lengthWithout at h
  obtain ⟨_, e1, -⟩ := tw_bd h
  exact e1
set_option maxRecDepth 100000 in
set_option maxHeartbeats 4000000 in
theorem wX7_lengthWithout_b12 (hO : tw_O p s m args meth c cX7_lengthWithout RX7 2 (some .int) G) {σ : tw_St} {a0 : Nat} {x1 : Int32} {q : Int32 × tw_St} (h : fX7_lengthWithout_b12 σ a0 x1 = some q) : tw_X p l e rmX7_lengthWithout s m args below meth c 2 G σ 0 0 (tw_Q below args s G 0 0 (some (.int q.1)) q.2) 12 [(0, .ref a0), (1, .int x1)] [] := by
  unfold fX7_lengthWithout_b12 at h
  refine tw_aload_n 0 hO dX7_lengthWithout_12 rfl rfl ?_
  obtain ⟨v13, e13, h⟩ := tw_bd h
  refine tw_getP hO dX7_lengthWithout_13 (t := 7) rfl 2 (by decide) rfl tw_w245 rfl e13 ?_
  refine tw_aload_n 0 hO dX7_lengthWithout_16 rfl rfl ?_
  obtain ⟨v17, e17, h⟩ := tw_bd h
  refine tw_getP hO dX7_lengthWithout_17 (t := 7) rfl 0 (by decide) rfl tw_w243 rfl e17 ?_
  obtain ⟨σ20, e20, h⟩ := tw_bd h
  refine tw_cVv hO (mX6_copyFrom l G e20) cfX6_copyFrom (t := 6) rfl (kX6_copyFrom e20) tw_w534 tw_w285 tw_w286 rfl rfl rfl rfl ⟨(Nat.le_of_ble_eq_true rfl), (Nat.le_of_ble_eq_true rfl)⟩ (Nat.le_of_ble_eq_true rfl) ⟨(Nat.le_of_ble_eq_true rfl), (Nat.le_of_ble_eq_true rfl)⟩ dX7_lengthWithout_20 ?_
  refine tw_aload_n 0 hO dX7_lengthWithout_23 rfl rfl ?_
  obtain ⟨v24, e24, h⟩ := tw_bd h
  refine tw_getP hO dX7_lengthWithout_24 (t := 7) rfl 3 (by decide) rfl tw_w246 rfl e24 ?_
  refine tw_iload_n 1 hO dX7_lengthWithout_27 rfl rfl ?_
  obtain ⟨σ28, e28, h⟩ := tw_bd h
  refine tw_cVv hO (mX5_play l G e28) cfX5_play (t := 5) rfl (kX5_play e28) tw_w296 tw_w297 tw_w298 rfl rfl rfl rfl ⟨(Nat.le_of_ble_eq_true rfl), (Nat.le_of_ble_eq_true rfl)⟩ (Nat.le_of_ble_eq_true rfl) ⟨(Nat.le_of_ble_eq_true rfl), (Nat.le_of_ble_eq_true rfl)⟩ dX7_lengthWithout_28 ?_
  refine tw_aload_n 0 hO dX7_lengthWithout_31 rfl rfl ?_
  obtain ⟨v32, e32, h⟩ := tw_bd h
  refine tw_getP hO dX7_lengthWithout_32 (t := 7) rfl 3 (by decide) rfl tw_w246 rfl e32 ?_
  obtain ⟨v35, e35, h⟩ := tw_bd h
  refine tw_cVi hO (mX5_length l G e35) cfX5_length (t := 5) rfl (kX5_length e35) tw_w479 tw_w480 tw_w481 rfl rfl rfl rfl ⟨(Nat.le_of_ble_eq_true rfl), (Nat.le_of_ble_eq_true rfl)⟩ (Nat.le_of_ble_eq_true rfl) ⟨(Nat.le_of_ble_eq_true rfl), (Nat.le_of_ble_eq_true rfl)⟩ dX7_lengthWithout_35 ?_
  exact tw_iret hO dX7_lengthWithout_38 h
set_option maxRecDepth 100000 in
set_option maxHeartbeats 4000000 in
theorem mX7_lengthWithout (l : Launch) (G : tw_G) {σ : tw_St} {a : Nat} {x1 : Int32} {q : Int32 × tw_St} (h : fX7_lengthWithout σ a x1 = some q) : tw_M l G yX7_lengthWithout cX7_lengthWithout 2 (some .int) rmX7_lengthWithout 0 0 σ [.ref a, .int x1] (some (.int q.1)) q.2 := by
  unfold fX7_lengthWithout at h
  obtain ⟨_, -, h⟩ := tw_bd h
  refine tw_M.of (by decide +kernel) (Nat.le_of_ble_eq_true rfl) (fun p e s m args below meth c hnm hO => ?_)
  have hO : tw_O p s m args meth c cX7_lengthWithout RX7 2 (some .int) G := hO
  refine tw_iload_n 1 hO dX7_lengthWithout_0 rfl rfl ?_
  refine tw_if_eq (tgt := 12) hO dX7_lengthWithout_1 (by decide) (fun cc => ?_) (fun cc => ?_)
  · replace h := tw_ifp cc h
    exact wX7_lengthWithout_b12 hO h
  · replace h := tw_ifn cc h
    refine tw_iload_n 1 hO dX7_lengthWithout_4 rfl rfl ?_
    refine tw_iconst (v := 1) hO dX7_lengthWithout_5 (by decide) ?_
    refine tw_icmp_eq (tgt := 12) hO dX7_lengthWithout_6 (by decide) (fun cc => ?_) (fun cc => ?_)
    · replace h := tw_ifp cc h
      exact wX7_lengthWithout_b12 hO h
    · replace h := tw_ifn cc h
      refine tw_bipush (v := (-2)) hO dX7_lengthWithout_9 (by decide) ?_
      exact tw_iret hO dX7_lengthWithout_11 h
theorem cfX7_lengthExchanged : tw_CF yX7_lengthExchanged cX7_lengthExchanged 3 (some .int) 2 := ⟨tw_w562, tw_w48, by decide +kernel, by decide +kernel, by decide +kernel⟩
theorem kX7_lengthExchanged {σ : tw_St} {a : Nat} {x1 : Int32} {x2 : Int32} {q : Int32 × tw_St} (h : fX7_lengthExchanged σ a x1 x2 = some q) : tw_is σ 7 a = some () := by
  unfold fX7_lengthExchanged at h
  obtain ⟨_, e1, -⟩ := tw_bd h
  exact e1
set_option maxRecDepth 100000 in
set_option maxHeartbeats 4000000 in
theorem mX7_lengthExchanged (l : Launch) (G : tw_G) {σ : tw_St} {a : Nat} {x1 : Int32} {x2 : Int32} {q : Int32 × tw_St} (h : fX7_lengthExchanged σ a x1 x2 = some q) : tw_M l G yX7_lengthExchanged cX7_lengthExchanged 3 (some .int) rmX7_lengthExchanged 0 0 σ [.ref a, .int x1, .int x2] (some (.int q.1)) q.2 := by
  unfold fX7_lengthExchanged at h
  obtain ⟨_, -, h⟩ := tw_bd h
  refine tw_M.of (by decide +kernel) (Nat.le_of_ble_eq_true rfl) (fun p e s m args below meth c hnm hO => ?_)
  have hO : tw_O p s m args meth c cX7_lengthExchanged RX7 3 (some .int) G := hO
  refine tw_aload_n 0 hO dX7_lengthExchanged_0 rfl rfl ?_
  obtain ⟨v1, e1, h⟩ := tw_bd h
  refine tw_getP hO dX7_lengthExchanged_1 (t := 7) rfl 2 (by decide) rfl tw_w245 rfl e1 ?_
  refine tw_aload_n 0 hO dX7_lengthExchanged_4 rfl rfl ?_
  obtain ⟨v5, e5, h⟩ := tw_bd h
  refine tw_getP hO dX7_lengthExchanged_5 (t := 7) rfl 0 (by decide) rfl tw_w243 rfl e5 ?_
  obtain ⟨σ8, e8, h⟩ := tw_bd h
  refine tw_cVv hO (mX6_copyFrom l G e8) cfX6_copyFrom (t := 6) rfl (kX6_copyFrom e8) tw_w534 tw_w285 tw_w286 rfl rfl rfl rfl ⟨(Nat.le_of_ble_eq_true rfl), (Nat.le_of_ble_eq_true rfl)⟩ (Nat.le_of_ble_eq_true rfl) ⟨(Nat.le_of_ble_eq_true rfl), (Nat.le_of_ble_eq_true rfl)⟩ dX7_lengthExchanged_8 ?_
  refine tw_aload_n 0 hO dX7_lengthExchanged_11 rfl rfl ?_
  obtain ⟨v12, e12, h⟩ := tw_bd h
  refine tw_getP hO dX7_lengthExchanged_12 (t := 7) rfl 2 (by decide) rfl tw_w245 rfl e12 ?_
  obtain ⟨v15, e15, h⟩ := tw_bd h
  refine tw_getP hO dX7_lengthExchanged_15 (t := 6) rfl 1 (by decide) rfl tw_w98 rfl e15 ?_
  refine tw_iload_n 1 hO dX7_lengthExchanged_18 rfl rfl ?_
  obtain ⟨v19, e19, h⟩ := tw_bd h
  refine tw_aald hO dX7_lengthExchanged_19 (by decide) (by decide) e19 ?_
  refine tw_iload_n 2 hO dX7_lengthExchanged_20 rfl rfl ?_
  obtain ⟨σ21, e21, h⟩ := tw_bd h
  refine tw_cVv hO (mX3_exchangeWithNext l G e21) cfX3_exchangeWithNext (t := 3) rfl (kX3_exchangeWithNext e21) tw_w563 tw_w564 tw_w565 rfl rfl rfl rfl ⟨(Nat.le_of_ble_eq_true rfl), (Nat.le_of_ble_eq_true rfl)⟩ (Nat.le_of_ble_eq_true rfl) ⟨(Nat.le_of_ble_eq_true rfl), (Nat.le_of_ble_eq_true rfl)⟩ dX7_lengthExchanged_21 ?_
  refine tw_aload_n 0 hO dX7_lengthExchanged_24 rfl rfl ?_
  obtain ⟨v25, e25, h⟩ := tw_bd h
  refine tw_getP hO dX7_lengthExchanged_25 (t := 7) rfl 3 (by decide) rfl tw_w246 rfl e25 ?_
  obtain ⟨σ28, e28, h⟩ := tw_bd h
  refine tw_cVv hO (mX5_follow l G e28) cfX5_follow (t := 5) rfl (kX5_follow e28) tw_w567 tw_w301 tw_w302 rfl rfl rfl rfl ⟨(Nat.le_of_ble_eq_true rfl), (Nat.le_of_ble_eq_true rfl)⟩ (Nat.le_of_ble_eq_true rfl) ⟨(Nat.le_of_ble_eq_true rfl), (Nat.le_of_ble_eq_true rfl)⟩ dX7_lengthExchanged_28 ?_
  refine tw_aload_n 0 hO dX7_lengthExchanged_31 rfl rfl ?_
  obtain ⟨v32, e32, h⟩ := tw_bd h
  refine tw_getP hO dX7_lengthExchanged_32 (t := 7) rfl 3 (by decide) rfl tw_w246 rfl e32 ?_
  obtain ⟨v35, e35, h⟩ := tw_bd h
  refine tw_getP hO dX7_lengthExchanged_35 (t := 5) rfl 0 (by decide) rfl tw_w142 rfl e35 ?_
  refine tw_iload_n 1 hO dX7_lengthExchanged_38 rfl rfl ?_
  obtain ⟨v39, e39, h⟩ := tw_bd h
  refine tw_aald hO dX7_lengthExchanged_39 (by decide) (by decide) e39 ?_
  refine tw_aload_n 0 hO dX7_lengthExchanged_40 rfl rfl ?_
  obtain ⟨v41, e41, h⟩ := tw_bd h
  refine tw_getP hO dX7_lengthExchanged_41 (t := 7) rfl 1 (by decide) rfl tw_w244 rfl e41 ?_
  obtain ⟨v44, e44, h⟩ := tw_bd h
  refine tw_getP hO dX7_lengthExchanged_44 (t := 5) rfl 0 (by decide) rfl tw_w142 rfl e44 ?_
  refine tw_iload_n 1 hO dX7_lengthExchanged_47 rfl rfl ?_
  obtain ⟨v48, e48, h⟩ := tw_bd h
  refine tw_aald hO dX7_lengthExchanged_48 (by decide) (by decide) e48 ?_
  obtain ⟨v49, e49, h⟩ := tw_bd h
  refine tw_cVi hO (mX2_sameValues l G e49) cfX2_sameValues (t := 2) rfl (kX2_sameValues e49) tw_w568 tw_w569 tw_w570 rfl rfl rfl rfl ⟨(Nat.le_of_ble_eq_true rfl), (Nat.le_of_ble_eq_true rfl)⟩ (Nat.le_of_ble_eq_true rfl) ⟨(Nat.le_of_ble_eq_true rfl), (Nat.le_of_ble_eq_true rfl)⟩ dX7_lengthExchanged_49 ?_
  refine tw_if_ne (tgt := 58) hO dX7_lengthExchanged_52 (by decide) (fun cc => ?_) (fun cc => ?_)
  · replace h := tw_ifn cc h
    refine tw_aload_n 0 hO dX7_lengthExchanged_58 rfl rfl ?_
    obtain ⟨v59, e59, h⟩ := tw_bd h
    refine tw_getP hO dX7_lengthExchanged_59 (t := 7) rfl 3 (by decide) rfl tw_w246 rfl e59 ?_
    refine tw_bipush (v := (-6)) hO dX7_lengthExchanged_62 (by decide) ?_
    obtain ⟨σ64, e64, h⟩ := tw_bd h
    refine tw_cVv hO (mX5_schedule l G e64) cfX5_schedule (t := 5) rfl (kX5_schedule e64) tw_w572 tw_w332 tw_w333 rfl rfl rfl rfl ⟨(Nat.le_of_ble_eq_true rfl), (Nat.le_of_ble_eq_true rfl)⟩ (Nat.le_of_ble_eq_true rfl) ⟨(Nat.le_of_ble_eq_true rfl), (Nat.le_of_ble_eq_true rfl)⟩ dX7_lengthExchanged_64 ?_
    refine tw_aload_n 0 hO dX7_lengthExchanged_67 rfl rfl ?_
    obtain ⟨v68, e68, h⟩ := tw_bd h
    refine tw_getP hO dX7_lengthExchanged_68 (t := 7) rfl 3 (by decide) rfl tw_w246 rfl e68 ?_
    obtain ⟨v71, e71, h⟩ := tw_bd h
    refine tw_cVi hO (mX5_length l G e71) cfX5_length (t := 5) rfl (kX5_length e71) tw_w479 tw_w480 tw_w481 rfl rfl rfl rfl ⟨(Nat.le_of_ble_eq_true rfl), (Nat.le_of_ble_eq_true rfl)⟩ (Nat.le_of_ble_eq_true rfl) ⟨(Nat.le_of_ble_eq_true rfl), (Nat.le_of_ble_eq_true rfl)⟩ dX7_lengthExchanged_71 ?_
    exact tw_iret hO dX7_lengthExchanged_74 h
  · replace h := tw_ifp cc h
    refine tw_bipush (v := (-6)) hO dX7_lengthExchanged_55 (by decide) ?_
    exact tw_iret hO dX7_lengthExchanged_57 h
theorem cfX7_bestExchange : tw_CF yX7_bestExchange cX7_bestExchange 8 (some .int) 2 := ⟨tw_w554, tw_w48, by decide +kernel, by decide +kernel, by decide +kernel⟩
theorem kX7_bestExchange {σ : tw_St} {a : Nat} {x1 : Int32} {x2 : Int32} {q : Int32 × tw_St} (h : fX7_bestExchange σ a x1 x2 = some q) : tw_is σ 7 a = some () := by
  unfold fX7_bestExchange at h
  obtain ⟨_, e1, -⟩ := tw_bd h
  exact e1
set_option maxRecDepth 100000 in
set_option maxHeartbeats 4000000 in
theorem wX7_bestExchange_b115 (hO : tw_O p s m args meth c cX7_bestExchange RX7 8 (some .int) G) {σ : tw_St} {x2 : Int32} {x4 : Int32} {x5 : Int32} {q : Int32 × tw_St} (h : fX7_bestExchange_b115 σ x2 x4 x5 = some q) : tw_X p l e rmX7_bestExchange s m args below meth c 8 G σ 0 0 (tw_Q below args s G 0 0 (some (.int q.1)) q.2) 115 [(2, .int x2), (4, .int x4), (5, .int x5)] [] := by
  unfold fX7_bestExchange_b115 at h
  refine tw_iload 1 hO dX7_bestExchange_115 rfl ?_
  refine tw_bipush (v := (-6)) hO dX7_bestExchange_117 (by decide) ?_
  refine tw_icmp_ne (tgt := 125) hO dX7_bestExchange_119 (by decide) (fun cc => ?_) (fun cc => ?_)
  · replace h := tw_ifn cc h
    refine tw_iload_n 0 hO dX7_bestExchange_125 rfl rfl ?_
    refine tw_if_ne (tgt := 134) hO dX7_bestExchange_126 (by decide) (fun cc => ?_) (fun cc => ?_)
    · replace h := tw_ifn cc h
      refine tw_iload 2 hO dX7_bestExchange_134 rfl ?_
      exact tw_iret hO dX7_bestExchange_136 h
    · replace h := tw_ifp cc h
      refine tw_iload 1 hO dX7_bestExchange_129 rfl ?_
      refine tw_goto (tgt := 136) hO dX7_bestExchange_131 (by decide) ?_
      exact tw_iret hO dX7_bestExchange_136 h
  · replace h := tw_ifp cc h
    refine tw_bipush (v := (-6)) hO dX7_bestExchange_122 (by decide) ?_
    exact tw_iret hO dX7_bestExchange_124 h
set_option maxRecDepth 100000 in
set_option maxHeartbeats 4000000 in
theorem wX7_bestExchange_b109 (hO : tw_O p s m args meth c cX7_bestExchange RX7 8 (some .int) G) {k47 : (tw_St → Nat → Int32 → Int32 → Nat → Int32 → Int32 → Int32 → Option (Int32 × tw_St))} (hk47 : ∀ (σ : tw_St) (a0 : Nat) (x1 : Int32) (x2 : Int32) (a3 : Nat) (x4 : Int32) (x5 : Int32) (x6 : Int32) (q : Int32 × tw_St), k47 σ a0 x1 x2 a3 x4 x5 x6 = some q → tw_X p l e rmX7_bestExchange s m args below meth c 8 G σ 0 0 (tw_Q below args s G 0 0 (some (.int q.1)) q.2) 47 [(0, .ref a0), (1, .int x1), (2, .int x2), (3, .ref a3), (4, .int x4), (5, .int x5), (6, .int x6)] []) {σ : tw_St} {a0 : Nat} {x1 : Int32} {x2 : Int32} {a3 : Nat} {x4 : Int32} {x5 : Int32} {x6 : Int32} {q : Int32 × tw_St} (h : fX7_bestExchange_b109 k47 σ a0 x1 x2 a3 x4 x5 x6 = some q) : tw_X p l e rmX7_bestExchange s m args below meth c 8 G σ 0 0 (tw_Q below args s G 0 0 (some (.int q.1)) q.2) 109 [(0, .ref a0), (1, .int x1), (2, .int x2), (3, .ref a3), (4, .int x4), (5, .int x5), (6, .int x6)] [] := by
  unfold fX7_bestExchange_b109 at h
  refine tw_iinc (q := 6) (v := (x6 + 1)) (lv' := [(6, .int (x6 + 1)), (0, .ref a0), (1, .int x1), (2, .int x2), (3, .ref a3), (4, .int x4), (5, .int x5)]) hO dX7_bestExchange_109 rfl rfl (by decide) rfl ?_
  refine tw_goto (tgt := 47) hO dX7_bestExchange_112 (by decide) ?_
  refine tw_sub [1, 2, 3, 4, 5, 6, 0] rfl ?_
  exact hk47 _ _ _ _ _ _ _ _ _ h
set_option maxRecDepth 100000 in
set_option maxHeartbeats 4000000 in
theorem wX7_bestExchange_h47 (hO : tw_O p s m args meth c cX7_bestExchange RX7 8 (some .int) G) {k47 : (tw_St → Nat → Int32 → Int32 → Nat → Int32 → Int32 → Int32 → Option (Int32 × tw_St))} (hk47 : ∀ (σ : tw_St) (a0 : Nat) (x1 : Int32) (x2 : Int32) (a3 : Nat) (x4 : Int32) (x5 : Int32) (x6 : Int32) (q : Int32 × tw_St), k47 σ a0 x1 x2 a3 x4 x5 x6 = some q → tw_X p l e rmX7_bestExchange s m args below meth c 8 G σ 0 0 (tw_Q below args s G 0 0 (some (.int q.1)) q.2) 47 [(0, .ref a0), (1, .int x1), (2, .int x2), (3, .ref a3), (4, .int x4), (5, .int x5), (6, .int x6)] []) {σ : tw_St} {a0 : Nat} {x1 : Int32} {x2 : Int32} {a3 : Nat} {x4 : Int32} {x5 : Int32} {x6 : Int32} {q : Int32 × tw_St} (h : fX7_bestExchange_h47 k47 σ a0 x1 x2 a3 x4 x5 x6 = some q) : tw_X p l e rmX7_bestExchange s m args below meth c 8 G σ 0 0 (tw_Q below args s G 0 0 (some (.int q.1)) q.2) 47 [(0, .ref a0), (1, .int x1), (2, .int x2), (3, .ref a3), (4, .int x4), (5, .int x5), (6, .int x6)] [] := by
  unfold fX7_bestExchange_h47 at h
  refine tw_iload 6 hO dX7_bestExchange_47 rfl ?_
  refine tw_iconst (v := 1) hO dX7_bestExchange_49 (by decide) ?_
  refine tw_iadd hO dX7_bestExchange_50 ?_
  refine tw_aload_n 3 hO dX7_bestExchange_51 rfl rfl ?_
  obtain ⟨v52, e52, h⟩ := tw_bd h
  refine tw_getI hO dX7_bestExchange_52 (t := 3) rfl 0 (by decide) rfl tw_w83 rfl e52 ?_
  refine tw_icmp_ge (tgt := 115) hO dX7_bestExchange_55 (by decide) (fun cc => ?_) (fun cc => ?_)
  · replace h := tw_ifp cc h
    refine tw_sub [2, 4, 5] rfl ?_
    exact wX7_bestExchange_b115 hO h
  · replace h := tw_ifn cc h
    refine tw_aload_n 3 hO dX7_bestExchange_58 rfl rfl ?_
    refine tw_iload 6 hO dX7_bestExchange_59 rfl ?_
    obtain ⟨v61, e61, h⟩ := tw_bd h
    refine tw_cVi hO (mX3_mayMove l G e61) cfX3_mayMove (t := 3) rfl (kX3_mayMove e61) tw_w555 tw_w556 tw_w557 rfl rfl rfl rfl ⟨(Nat.le_of_ble_eq_true rfl), (Nat.le_of_ble_eq_true rfl)⟩ (Nat.le_of_ble_eq_true rfl) ⟨(Nat.le_of_ble_eq_true rfl), (Nat.le_of_ble_eq_true rfl)⟩ dX7_bestExchange_61 ?_
    refine tw_if_eq (tgt := 109) hO dX7_bestExchange_64 (by decide) (fun cc => ?_) (fun cc => ?_)
    · replace h := tw_ifp cc h
      exact wX7_bestExchange_b109 hO hk47 h
    · replace h := tw_ifn cc h
      refine tw_aload_n 3 hO dX7_bestExchange_67 rfl rfl ?_
      refine tw_iload 6 hO dX7_bestExchange_68 rfl ?_
      refine tw_iconst (v := 1) hO dX7_bestExchange_70 (by decide) ?_
      refine tw_iadd hO dX7_bestExchange_71 ?_
      obtain ⟨v72, e72, h⟩ := tw_bd h
      refine tw_cVi hO (mX3_mayMove l G e72) cfX3_mayMove (t := 3) rfl (kX3_mayMove e72) tw_w555 tw_w556 tw_w557 rfl rfl rfl rfl ⟨(Nat.le_of_ble_eq_true rfl), (Nat.le_of_ble_eq_true rfl)⟩ (Nat.le_of_ble_eq_true rfl) ⟨(Nat.le_of_ble_eq_true rfl), (Nat.le_of_ble_eq_true rfl)⟩ dX7_bestExchange_72 ?_
      refine tw_if_eq (tgt := 109) hO dX7_bestExchange_75 (by decide) (fun cc => ?_) (fun cc => ?_)
      · replace h := tw_ifp cc h
        exact wX7_bestExchange_b109 hO hk47 h
      · replace h := tw_ifn cc h
        refine tw_aload_n 0 hO dX7_bestExchange_78 rfl rfl ?_
        refine tw_iload_n 1 hO dX7_bestExchange_79 rfl rfl ?_
        refine tw_iload 6 hO dX7_bestExchange_80 rfl ?_
        obtain ⟨q82, e82, h⟩ := tw_bd h
        refine tw_cVi hO (mX7_lengthExchanged l G e82) cfX7_lengthExchanged (t := 7) rfl (kX7_lengthExchanged e82) tw_w559 tw_w561 tw_w20 rfl rfl rfl rfl ⟨(Nat.le_of_ble_eq_true rfl), (Nat.le_of_ble_eq_true rfl)⟩ (Nat.le_of_ble_eq_true rfl) ⟨(Nat.le_of_ble_eq_true rfl), (Nat.le_of_ble_eq_true rfl)⟩ dX7_bestExchange_82 ?_
        refine tw_istore (lv' := [(7, .int q82.1), (0, .ref a0), (1, .int x1), (2, .int x2), (3, .ref a3), (4, .int x4), (5, .int x5), (6, .int x6)]) hO dX7_bestExchange_85 (by decide) rfl ?_
        refine tw_iload 0 hO dX7_bestExchange_87 rfl ?_
        refine tw_bipush (v := (-6)) hO dX7_bestExchange_89 (by decide) ?_
        refine tw_icmp_eq (tgt := 109) hO dX7_bestExchange_91 (by decide) (fun cc => ?_) (fun cc => ?_)
        · replace h := tw_ifp cc h
          refine tw_sub [1, 2, 3, 4, 5, 6, 7] rfl ?_
          exact wX7_bestExchange_b109 hO hk47 h
        · replace h := tw_ifn cc h
          refine tw_iload 0 hO dX7_bestExchange_94 rfl ?_
          refine tw_iload 6 hO dX7_bestExchange_96 rfl ?_
          refine tw_icmp_ge (tgt := 109) hO dX7_bestExchange_98 (by decide) (fun cc => ?_) (fun cc => ?_)
          · replace h := tw_ifp cc h
            refine tw_sub [1, 2, 3, 4, 5, 6, 7] rfl ?_
            exact wX7_bestExchange_b109 hO hk47 h
          · replace h := tw_ifn cc h
            refine tw_iload 7 hO dX7_bestExchange_101 rfl ?_
            refine tw_istore (lv' := [(4, .int x6), (7, .int q82.1), (0, .ref a0), (1, .int x1), (2, .int x2), (3, .ref a3), (5, .int x5), (6, .int x6)]) hO dX7_bestExchange_103 (by decide) rfl ?_
            refine tw_iload 1 hO dX7_bestExchange_105 rfl ?_
            refine tw_istore (lv' := [(5, .int q82.1), (4, .int x6), (7, .int q82.1), (0, .ref a0), (1, .int x1), (2, .int x2), (3, .ref a3), (6, .int x6)]) hO dX7_bestExchange_107 (by decide) rfl ?_
            refine tw_sub [3, 4, 5, 6, 1, 0, 7] rfl ?_
            exact wX7_bestExchange_b109 hO hk47 h
set_option maxRecDepth 100000 in
set_option maxHeartbeats 4000000 in
theorem wX7_bestExchange_l47 (hO : tw_O p s m args meth c cX7_bestExchange RX7 8 (some .int) G) : ∀ (n : Nat) (σ : tw_St) (a0 : Nat) (x1 : Int32) (x2 : Int32) (a3 : Nat) (x4 : Int32) (x5 : Int32) (x6 : Int32) (q : Int32 × tw_St), fX7_bestExchange_l47 n σ a0 x1 x2 a3 x4 x5 x6 = some q → tw_X p l e rmX7_bestExchange s m args below meth c 8 G σ 0 0 (tw_Q below args s G 0 0 (some (.int q.1)) q.2) 47 [(0, .ref a0), (1, .int x1), (2, .int x2), (3, .ref a3), (4, .int x4), (5, .int x5), (6, .int x6)] [] := by
  intro n
  induction n with
  | zero => intro _ _ _ _ _ _ _ _ q h; cases (show (none : Option (Int32 × tw_St)) = some q from h)
  | succ n ih => intro _ _ _ _ _ _ _ _ q h; exact wX7_bestExchange_h47 hO ih h
set_option maxRecDepth 100000 in
set_option maxHeartbeats 4000000 in
theorem wX7_bestExchange_b21 (hO : tw_O p s m args meth c cX7_bestExchange RX7 8 (some .int) G) {σ : tw_St} {a0 : Nat} {x1 : Int32} {x2 : Int32} {q : Int32 × tw_St} (h : fX7_bestExchange_b21 σ a0 x1 x2 = some q) : tw_X p l e rmX7_bestExchange s m args below meth c 8 G σ 0 0 (tw_Q below args s G 0 0 (some (.int q.1)) q.2) 21 [(0, .ref a0), (1, .int x1), (2, .int x2)] [] := by
  unfold fX7_bestExchange_b21 at h
  refine tw_aload_n 0 hO dX7_bestExchange_21 rfl rfl ?_
  obtain ⟨v22, e22, h⟩ := tw_bd h
  refine tw_getP hO dX7_bestExchange_22 (t := 7) rfl 0 (by decide) rfl tw_w243 rfl e22 ?_
  obtain ⟨v25, e25, h⟩ := tw_bd h
  refine tw_getP hO dX7_bestExchange_25 (t := 6) rfl 1 (by decide) rfl tw_w98 rfl e25 ?_
  refine tw_iload_n 1 hO dX7_bestExchange_28 rfl rfl ?_
  obtain ⟨v29, e29, h⟩ := tw_bd h
  refine tw_aald hO dX7_bestExchange_29 (by decide) (by decide) e29 ?_
  refine tw_astore_n (lv' := [(3, .ref v29), (0, .ref a0), (1, .int x1), (2, .int x2)]) hO dX7_bestExchange_30 rfl (by decide) rfl ?_
  refine tw_bipush (v := (-6)) hO dX7_bestExchange_31 (by decide) ?_
  refine tw_istore (lv' := [(4, .int (-6)), (3, .ref v29), (0, .ref a0), (1, .int x1), (2, .int x2)]) hO dX7_bestExchange_33 (by decide) rfl ?_
  refine tw_aload_n 2 hO dX7_bestExchange_35 rfl rfl ?_
  obtain ⟨v36, e36, h⟩ := tw_bd h
  refine tw_getP hO dX7_bestExchange_36 (t := 7) rfl 1 (by decide) rfl tw_w244 rfl e36 ?_
  obtain ⟨v39, e39, h⟩ := tw_bd h
  refine tw_cVi hO (mX5_length l G e39) cfX5_length (t := 5) rfl (kX5_length e39) tw_w479 tw_w480 tw_w481 rfl rfl rfl rfl ⟨(Nat.le_of_ble_eq_true rfl), (Nat.le_of_ble_eq_true rfl)⟩ (Nat.le_of_ble_eq_true rfl) ⟨(Nat.le_of_ble_eq_true rfl), (Nat.le_of_ble_eq_true rfl)⟩ dX7_bestExchange_39 ?_
  refine tw_istore (lv' := [(5, .int v39), (4, .int (-6)), (3, .ref v29), (0, .ref a0), (1, .int x1), (2, .int x2)]) hO dX7_bestExchange_42 (by decide) rfl ?_
  refine tw_iconst (v := 0) hO dX7_bestExchange_44 (by decide) ?_
  refine tw_istore (lv' := [(6, .int 0), (5, .int v39), (4, .int (-6)), (3, .ref v29), (0, .ref a0), (1, .int x1), (2, .int x2)]) hO dX7_bestExchange_45 (by decide) rfl ?_
  refine tw_sub [4, 5, 6, 3, 2, 1, 0] rfl ?_
  exact wX7_bestExchange_l47 hO _ _ _ _ _ _ _ _ _ _ h
set_option maxRecDepth 100000 in
set_option maxHeartbeats 4000000 in
theorem mX7_bestExchange (l : Launch) (G : tw_G) {σ : tw_St} {a : Nat} {x1 : Int32} {x2 : Int32} {q : Int32 × tw_St} (h : fX7_bestExchange σ a x1 x2 = some q) : tw_M l G yX7_bestExchange cX7_bestExchange 8 (some .int) rmX7_bestExchange 0 0 σ [.ref a, .int x1, .int x2] (some (.int q.1)) q.2 := by
  unfold fX7_bestExchange at h
  obtain ⟨_, -, h⟩ := tw_bd h
  refine tw_M.of (by decide +kernel) (Nat.le_of_ble_eq_true rfl) (fun p e s m args below meth c hnm hO => ?_)
  have hO : tw_O p s m args meth c cX7_bestExchange RX7 8 (some .int) G := hO
  refine tw_iload_n 1 hO dX7_bestExchange_0 rfl rfl ?_
  obtain ⟨v1, e1, h⟩ := tw_bd h
  refine tw_cSi hO (mX7_isThread l G e1) cfX7_isThread tw_w459 tw_w460 rfl rfl rfl rfl ⟨(Nat.le_of_ble_eq_true rfl), (Nat.le_of_ble_eq_true rfl)⟩ (Nat.le_of_ble_eq_true rfl) ⟨(Nat.le_of_ble_eq_true rfl), (Nat.le_of_ble_eq_true rfl)⟩ dX7_bestExchange_1 ?_
  refine tw_if_ne (tgt := 9) hO dX7_bestExchange_4 (by decide) (fun cc => ?_) (fun cc => ?_)
  · replace h := tw_ifn cc h
    refine tw_iload_n 2 hO dX7_bestExchange_9 rfl rfl ?_
    refine tw_if_eq (tgt := 21) hO dX7_bestExchange_10 (by decide) (fun cc => ?_) (fun cc => ?_)
    · replace h := tw_ifp cc h
      exact wX7_bestExchange_b21 hO h
    · replace h := tw_ifn cc h
      refine tw_iload_n 2 hO dX7_bestExchange_13 rfl rfl ?_
      refine tw_iconst (v := 1) hO dX7_bestExchange_14 (by decide) ?_
      refine tw_icmp_eq (tgt := 21) hO dX7_bestExchange_15 (by decide) (fun cc => ?_) (fun cc => ?_)
      · replace h := tw_ifp cc h
        exact wX7_bestExchange_b21 hO h
      · replace h := tw_ifn cc h
        refine tw_bipush (v := (-2)) hO dX7_bestExchange_18 (by decide) ?_
        exact tw_iret hO dX7_bestExchange_20 h
  · replace h := tw_ifp cc h
    refine tw_iconst (v := (-1)) hO dX7_bestExchange_7 (by decide) ?_
    exact tw_iret hO dX7_bestExchange_8 h
theorem cfX7_undo : tw_CF yX7_undo cX7_undo 1 (some .int) 0 := ⟨tw_w576, tw_w48, by decide +kernel, by decide +kernel, by decide +kernel⟩
theorem kX7_undo {σ : tw_St} {a : Nat} {q : Int32 × tw_St} (h : fX7_undo σ a = some q) : tw_is σ 7 a = some () := by
  unfold fX7_undo at h
  obtain ⟨_, e1, -⟩ := tw_bd h
  exact e1
set_option maxRecDepth 100000 in
set_option maxHeartbeats 4000000 in
theorem mX7_undo (l : Launch) (G : tw_G) {σ : tw_St} {a : Nat} {q : Int32 × tw_St} (h : fX7_undo σ a = some q) : tw_M l G yX7_undo cX7_undo 1 (some .int) rmX7_undo 0 0 σ [.ref a] (some (.int q.1)) q.2 := by
  unfold fX7_undo at h
  obtain ⟨_, -, h⟩ := tw_bd h
  refine tw_M.of (by decide +kernel) (Nat.le_of_ble_eq_true rfl) (fun p e s m args below meth c hnm hO => ?_)
  have hO : tw_O p s m args meth c cX7_undo RX7 1 (some .int) G := hO
  refine tw_aload_n 0 hO dX7_undo_0 rfl rfl ?_
  obtain ⟨v1, e1, h⟩ := tw_bd h
  refine tw_getP hO dX7_undo_1 (t := 7) rfl 6 (by decide) rfl tw_w249 rfl e1 ?_
  obtain ⟨v4, e4, h⟩ := tw_bd h
  refine tw_getI hO dX7_undo_4 (t := 0) rfl 0 (by decide) rfl tw_w233 rfl e4 ?_
  refine tw_if_ne (tgt := 13) hO dX7_undo_7 (by decide) (fun cc => ?_) (fun cc => ?_)
  · replace h := tw_ifn cc h
    refine tw_aload_n 0 hO dX7_undo_13 rfl rfl ?_
    obtain ⟨v14, e14, h⟩ := tw_bd h
    refine tw_getP hO dX7_undo_14 (t := 7) rfl 6 (by decide) rfl tw_w249 rfl e14 ?_
    refine tw_aload_n 0 hO dX7_undo_17 rfl rfl ?_
    obtain ⟨v18, e18, h⟩ := tw_bd h
    refine tw_getP hO dX7_undo_18 (t := 7) rfl 0 (by decide) rfl tw_w243 rfl e18 ?_
    obtain ⟨σ21, e21, h⟩ := tw_bd h
    refine tw_cVv hO (mX0_takeBack l G e21) cfX0_takeBack (t := 0) rfl (kX0_takeBack e21) tw_w577 tw_w578 tw_w579 rfl rfl rfl rfl ⟨(Nat.le_of_ble_eq_true rfl), (Nat.le_of_ble_eq_true rfl)⟩ (Nat.le_of_ble_eq_true rfl) ⟨(Nat.le_of_ble_eq_true rfl), (Nat.le_of_ble_eq_true rfl)⟩ dX7_undo_21 ?_
    refine tw_aload_n 0 hO dX7_undo_24 rfl rfl ?_
    obtain ⟨v25, e25, h⟩ := tw_bd h
    refine tw_getP hO dX7_undo_25 (t := 7) rfl 1 (by decide) rfl tw_w244 rfl e25 ?_
    refine tw_bipush (v := (-6)) hO dX7_undo_28 (by decide) ?_
    obtain ⟨σ30, e30, h⟩ := tw_bd h
    refine tw_cVv hO (mX5_play l G e30) cfX5_play (t := 5) rfl (kX5_play e30) tw_w296 tw_w297 tw_w298 rfl rfl rfl rfl ⟨(Nat.le_of_ble_eq_true rfl), (Nat.le_of_ble_eq_true rfl)⟩ (Nat.le_of_ble_eq_true rfl) ⟨(Nat.le_of_ble_eq_true rfl), (Nat.le_of_ble_eq_true rfl)⟩ dX7_undo_30 ?_
    refine tw_aload_n 0 hO dX7_undo_33 rfl rfl ?_
    obtain ⟨v34, e34, h⟩ := tw_bd h
    refine tw_getP hO dX7_undo_34 (t := 7) rfl 6 (by decide) rfl tw_w249 rfl e34 ?_
    obtain ⟨v37, e37, h⟩ := tw_bd h
    refine tw_getI hO dX7_undo_37 (t := 0) rfl 0 (by decide) rfl tw_w233 rfl e37 ?_
    exact tw_iret hO dX7_undo_40 h
  · replace h := tw_ifp cc h
    refine tw_bipush (v := (-5)) hO dX7_undo_10 (by decide) ?_
    exact tw_iret hO dX7_undo_12 h
theorem cfX7_save : tw_CF yX7_save cX7_save 2 (some .int) 1 := ⟨tw_w584, tw_w48, by decide +kernel, by decide +kernel, by decide +kernel⟩
theorem kX7_save {σ : tw_St} {a : Nat} {x1 : Int32} {q : Int32 × tw_St} (h : fX7_save σ a x1 = some q) : tw_is σ 7 a = some () := by
  unfold fX7_save at h
  obtain ⟨_, e1, -⟩ := tw_bd h
  exact e1
set_option maxRecDepth 100000 in
set_option maxHeartbeats 4000000 in
theorem mX7_save (l : Launch) (G : tw_G) {σ : tw_St} {a : Nat} {x1 : Int32} {q : Int32 × tw_St} (h : fX7_save σ a x1 = some q) : tw_M l G yX7_save cX7_save 2 (some .int) rmX7_save 0 0 σ [.ref a, .int x1] (some (.int q.1)) q.2 := by
  unfold fX7_save at h
  obtain ⟨_, -, h⟩ := tw_bd h
  refine tw_M.of (by decide +kernel) (Nat.le_of_ble_eq_true rfl) (fun p e s m args below meth c hnm hO => ?_)
  have hO : tw_O p s m args meth c cX7_save RX7 2 (some .int) G := hO
  refine tw_iload_n 1 hO dX7_save_0 rfl rfl ?_
  refine tw_if_lt (tgt := 9) hO dX7_save_1 (by decide) (fun cc => ?_) (fun cc => ?_)
  · replace h := tw_ifp cc h
    refine tw_bipush (v := (-2)) hO dX7_save_9 (by decide) ?_
    exact tw_iret hO dX7_save_11 h
  · replace h := tw_ifn cc h
    refine tw_iload_n 1 hO dX7_save_4 rfl rfl ?_
    refine tw_iconst (v := 2) hO dX7_save_5 (by decide) ?_
    refine tw_icmp_lt (tgt := 12) hO dX7_save_6 (by decide) (fun cc => ?_) (fun cc => ?_)
    · replace h := tw_ifp cc h
      refine tw_aload_n 0 hO dX7_save_12 rfl rfl ?_
      obtain ⟨v13, e13, h⟩ := tw_bd h
      refine tw_getP hO dX7_save_13 (t := 7) rfl 7 (by decide) rfl tw_w250 rfl e13 ?_
      refine tw_iload_n 1 hO dX7_save_16 rfl rfl ?_
      obtain ⟨v17, e17, h⟩ := tw_bd h
      refine tw_aald hO dX7_save_17 (by decide) (by decide) e17 ?_
      refine tw_aload_n 0 hO dX7_save_18 rfl rfl ?_
      obtain ⟨v19, e19, h⟩ := tw_bd h
      refine tw_getP hO dX7_save_19 (t := 7) rfl 0 (by decide) rfl tw_w243 rfl e19 ?_
      obtain ⟨σ22, e22, h⟩ := tw_bd h
      refine tw_cVv hO (mX6_copyFrom l G e22) cfX6_copyFrom (t := 6) rfl (kX6_copyFrom e22) tw_w534 tw_w285 tw_w286 rfl rfl rfl rfl ⟨(Nat.le_of_ble_eq_true rfl), (Nat.le_of_ble_eq_true rfl)⟩ (Nat.le_of_ble_eq_true rfl) ⟨(Nat.le_of_ble_eq_true rfl), (Nat.le_of_ble_eq_true rfl)⟩ dX7_save_22 ?_
      refine tw_aload_n 0 hO dX7_save_25 rfl rfl ?_
      obtain ⟨v26, e26, h⟩ := tw_bd h
      refine tw_getP hO dX7_save_26 (t := 7) rfl 8 (by decide) rfl tw_w251 rfl e26 ?_
      refine tw_iload_n 1 hO dX7_save_29 rfl rfl ?_
      refine tw_iconst (v := 1) hO dX7_save_30 (by decide) ?_
      obtain ⟨_, hz31, h⟩ := tw_bd h
      obtain ⟨σ31, e31, h⟩ := tw_bd h
      refine tw_zast hO dX7_save_31 hz31 e31 ?_
      refine tw_aload_n 0 hO dX7_save_32 rfl rfl ?_
      obtain ⟨v33, e33, h⟩ := tw_bd h
      refine tw_getP hO dX7_save_33 (t := 7) rfl 1 (by decide) rfl tw_w244 rfl e33 ?_
      obtain ⟨v36, e36, h⟩ := tw_bd h
      refine tw_cVi hO (mX5_length l G e36) cfX5_length (t := 5) rfl (kX5_length e36) tw_w479 tw_w480 tw_w481 rfl rfl rfl rfl ⟨(Nat.le_of_ble_eq_true rfl), (Nat.le_of_ble_eq_true rfl)⟩ (Nat.le_of_ble_eq_true rfl) ⟨(Nat.le_of_ble_eq_true rfl), (Nat.le_of_ble_eq_true rfl)⟩ dX7_save_36 ?_
      exact tw_iret hO dX7_save_39 h
    · replace h := tw_ifn cc h
      refine tw_bipush (v := (-2)) hO dX7_save_9 (by decide) ?_
      exact tw_iret hO dX7_save_11 h
theorem cfX7_restore : tw_CF yX7_restore cX7_restore 2 (some .int) 1 := ⟨tw_w588, tw_w48, by decide +kernel, by decide +kernel, by decide +kernel⟩
theorem kX7_restore {σ : tw_St} {a : Nat} {x1 : Int32} {q : Int32 × tw_St} (h : fX7_restore σ a x1 = some q) : tw_is σ 7 a = some () := by
  unfold fX7_restore at h
  obtain ⟨_, e1, -⟩ := tw_bd h
  exact e1
set_option maxRecDepth 100000 in
set_option maxHeartbeats 4000000 in
theorem mX7_restore (l : Launch) (G : tw_G) {σ : tw_St} {a : Nat} {x1 : Int32} {q : Int32 × tw_St} (h : fX7_restore σ a x1 = some q) : tw_M l G yX7_restore cX7_restore 2 (some .int) rmX7_restore 0 0 σ [.ref a, .int x1] (some (.int q.1)) q.2 := by
  unfold fX7_restore at h
  obtain ⟨_, -, h⟩ := tw_bd h
  refine tw_M.of (by decide +kernel) (Nat.le_of_ble_eq_true rfl) (fun p e s m args below meth c hnm hO => ?_)
  have hO : tw_O p s m args meth c cX7_restore RX7 2 (some .int) G := hO
  refine tw_iload_n 1 hO dX7_restore_0 rfl rfl ?_
  refine tw_if_lt (tgt := 9) hO dX7_restore_1 (by decide) (fun cc => ?_) (fun cc => ?_)
  · replace h := tw_ifp cc h
    refine tw_bipush (v := (-2)) hO dX7_restore_9 (by decide) ?_
    exact tw_iret hO dX7_restore_11 h
  · replace h := tw_ifn cc h
    refine tw_iload_n 1 hO dX7_restore_4 rfl rfl ?_
    refine tw_iconst (v := 2) hO dX7_restore_5 (by decide) ?_
    refine tw_icmp_lt (tgt := 12) hO dX7_restore_6 (by decide) (fun cc => ?_) (fun cc => ?_)
    · replace h := tw_ifp cc h
      refine tw_aload_n 0 hO dX7_restore_12 rfl rfl ?_
      obtain ⟨v13, e13, h⟩ := tw_bd h
      refine tw_getP hO dX7_restore_13 (t := 7) rfl 8 (by decide) rfl tw_w251 rfl e13 ?_
      refine tw_iload_n 1 hO dX7_restore_16 rfl rfl ?_
      obtain ⟨v17, e17, h⟩ := tw_bd h
      refine tw_zald hO dX7_restore_17 e17 ?_
      refine tw_if_ne (tgt := 24) hO dX7_restore_18 (by decide) (fun cc => ?_) (fun cc => ?_)
      · replace h := tw_ifn cc h
        refine tw_aload_n 0 hO dX7_restore_24 rfl rfl ?_
        obtain ⟨v25, e25, h⟩ := tw_bd h
        refine tw_getP hO dX7_restore_25 (t := 7) rfl 6 (by decide) rfl tw_w249 rfl e25 ?_
        refine tw_aload_n 0 hO dX7_restore_28 rfl rfl ?_
        obtain ⟨v29, e29, h⟩ := tw_bd h
        refine tw_getP hO dX7_restore_29 (t := 7) rfl 0 (by decide) rfl tw_w243 rfl e29 ?_
        obtain ⟨σ32, e32, h⟩ := tw_bd h
        refine tw_cVv hO (mX0_record l G e32) cfX0_record (t := 0) rfl (kX0_record e32) tw_w280 tw_w281 tw_w282 rfl rfl rfl rfl ⟨(Nat.le_of_ble_eq_true rfl), (Nat.le_of_ble_eq_true rfl)⟩ (Nat.le_of_ble_eq_true rfl) ⟨(Nat.le_of_ble_eq_true rfl), (Nat.le_of_ble_eq_true rfl)⟩ dX7_restore_32 ?_
        refine tw_aload_n 0 hO dX7_restore_35 rfl rfl ?_
        obtain ⟨v36, e36, h⟩ := tw_bd h
        refine tw_getP hO dX7_restore_36 (t := 7) rfl 0 (by decide) rfl tw_w243 rfl e36 ?_
        refine tw_aload_n 0 hO dX7_restore_39 rfl rfl ?_
        obtain ⟨v40, e40, h⟩ := tw_bd h
        refine tw_getP hO dX7_restore_40 (t := 7) rfl 7 (by decide) rfl tw_w250 rfl e40 ?_
        refine tw_iload_n 1 hO dX7_restore_43 rfl rfl ?_
        obtain ⟨v44, e44, h⟩ := tw_bd h
        refine tw_aald hO dX7_restore_44 (by decide) (by decide) e44 ?_
        obtain ⟨σ45, e45, h⟩ := tw_bd h
        refine tw_cVv hO (mX6_copyFrom l G e45) cfX6_copyFrom (t := 6) rfl (kX6_copyFrom e45) tw_w534 tw_w285 tw_w286 rfl rfl rfl rfl ⟨(Nat.le_of_ble_eq_true rfl), (Nat.le_of_ble_eq_true rfl)⟩ (Nat.le_of_ble_eq_true rfl) ⟨(Nat.le_of_ble_eq_true rfl), (Nat.le_of_ble_eq_true rfl)⟩ dX7_restore_45 ?_
        refine tw_aload_n 0 hO dX7_restore_48 rfl rfl ?_
        obtain ⟨v49, e49, h⟩ := tw_bd h
        refine tw_getP hO dX7_restore_49 (t := 7) rfl 1 (by decide) rfl tw_w244 rfl e49 ?_
        refine tw_bipush (v := (-6)) hO dX7_restore_52 (by decide) ?_
        obtain ⟨σ54, e54, h⟩ := tw_bd h
        refine tw_cVv hO (mX5_play l G e54) cfX5_play (t := 5) rfl (kX5_play e54) tw_w296 tw_w297 tw_w298 rfl rfl rfl rfl ⟨(Nat.le_of_ble_eq_true rfl), (Nat.le_of_ble_eq_true rfl)⟩ (Nat.le_of_ble_eq_true rfl) ⟨(Nat.le_of_ble_eq_true rfl), (Nat.le_of_ble_eq_true rfl)⟩ dX7_restore_54 ?_
        refine tw_aload_n 0 hO dX7_restore_57 rfl rfl ?_
        obtain ⟨v58, e58, h⟩ := tw_bd h
        refine tw_getP hO dX7_restore_58 (t := 7) rfl 1 (by decide) rfl tw_w244 rfl e58 ?_
        obtain ⟨v61, e61, h⟩ := tw_bd h
        refine tw_cVi hO (mX5_length l G e61) cfX5_length (t := 5) rfl (kX5_length e61) tw_w479 tw_w480 tw_w481 rfl rfl rfl rfl ⟨(Nat.le_of_ble_eq_true rfl), (Nat.le_of_ble_eq_true rfl)⟩ (Nat.le_of_ble_eq_true rfl) ⟨(Nat.le_of_ble_eq_true rfl), (Nat.le_of_ble_eq_true rfl)⟩ dX7_restore_61 ?_
        exact tw_iret hO dX7_restore_64 h
      · replace h := tw_ifp cc h
        refine tw_bipush (v := (-5)) hO dX7_restore_21 (by decide) ?_
        exact tw_iret hO dX7_restore_23 h
    · replace h := tw_ifn cc h
      refine tw_bipush (v := (-2)) hO dX7_restore_9 (by decide) ?_
      exact tw_iret hO dX7_restore_11 h
end TW_05e_X7
