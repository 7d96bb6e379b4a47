/-! THE CLAIM OUT OF ONE WALK OF THE LAW'S BODY. Your part is whole_start (and what it stands on); all else here is the same for every law, but numbers. -/
def R_law : String := "TwinThreadsLaw"
def lw_P (b : Addr) (xs : List Int32) (args : Array Value) (s : State) : Prop := args = #[.ref b] ∧ s.IntsAt b xs ∧ xs.length ≤ 2048 ∧ (Jvm.Cond.and given_1 narrow_1).before args s = true
def lw_Q (_ : Array Value) (s : State) (o : Outcome) (t : State) : Prop := o = .returned (some (.int 1)) ∧ Framed s o t [] 600000 7302250
def lw_Z (below : List Frame) (a : Array Value) (s : State) : State → Prop := fun t => ∃ o, t.status = .running ∧ Ended t below o ∧ lw_Q a s o t
/-- the law's own end, with 1 on the stack, nothing written that was there before, its room as the claim has it -/
theorem lw_ret {p : Program} {l : Launch} {e : Env} {s : State} {m : MethodId} {below : List Frame} {meth : Method} {c : Code} {b : Nat} (hx : p.tables.exec = Jvm.exec) (hb : c.code = code) (hr : meth.sig.returnType = ret) (hlocks : meth.locks = false) {pc : Nat} {H : Heap} {ls : Array Slot} (hdg : decode code pc = .ok (.ireturn, 1)) : W p l e room_1 s m #[Value.ref b] below meth c H [] 600000 7302250 (lw_Z below #[Value.ref b] s) (F0 m pc ls [.int 1]) := by
  intro T hT X
  obtain ⟨fs, hret, hrun, hended, hW, hframe⟩ := X.leave (v := some (.int 1)) (hlocks := hlocks) (fun h => by rw [hr] at h; cases h)
  have hmeth' : T.vm.method? m = some meth := X.method'
  refine ⟨T.setFrames fs, ?_, .returned (some (.int 1)), hrun, hended, rfl, ⟨_, rfl⟩, hW, hframe⟩
  jvm_step X.here [X.here.top, hx, hb, hdg, hmeth', hr, ret, narrow_b1]
  (try refine ⟨rfl, ?_⟩); (try refine ⟨rfl, ?_⟩)
  first | (intro acts; rw [hret _ acts rfl rfl rfl]) | rw [hret _ _ rfl rfl rfl]
  exact Steps.refl _
/-- what holds at the law's entry: the machine, the code, the tables' words (any of lw_tbl by 'hts w (by decide +kernel)'), the script of L ints xs at the cell b, what the Statement gives of the start (any of its parts by flat_of_before) -/
def lw_At (p : Program) (s : State) (m : MethodId) (meth : Method) (c : Code) (b L : Nat) (xs : Nat → Int32) : Prop :=
  p.tables.exec = Jvm.exec ∧ c.code = code ∧ meth.sig.returnType = ret ∧ c.maxLocals = 4 ∧ s.vm.findClass R_law = some m.cls ∧ (∀ w ∈ lw_tbl, w.before #[Value.ref b] s = true) ∧ va_X b L xs s s.heap ∧ b < s.heap.size ∧ meth.locks = false ∧ (Jvm.Cond.and given_1 narrow_1).before #[Value.ref b] s = true
section TW_law
variable {p : Program} {l : Launch} {e : Env} {s : State} {m : MethodId} {below : List Frame} {meth : Method} {c : Code} {G : tw_G} {b L : Nat} {xs : Nat → Int32}
variable {cells slots pc : Nat} {σ : tw_St} {lv : List (Nat × Value)} {st : List Value} {Q : State → Prop}
theorem tw_sld {i v : Int32} (h : tw_O p s m #[Value.ref b] meth c code RL 4 ret G) (hC : lw_At p s m meth c b L xs) (hb : G.2.2.2.2 = s.heap.size) (hd : decode code pc = .ok (.iaload, 1)) (ea : tw_sc xs L i = some v) (kk : tw_X p l e room_1 s m #[Value.ref b] below meth c 4 G σ cells slots Q (pc + 1) lv (.int v :: st)) : tw_X p l e room_1 s m #[Value.ref b] below meth c 4 G σ cells slots Q pc lv (.int i :: .ref b :: st) := by
  obtain ⟨hx, hbc, -, -, -, -, hX, hbl, -, -⟩ := hC
  unfold tw_sc at ea
  split at ea
  · rename_i q
    obtain rfl := Option.some.inj ea
    exact fun H locs ls hR hS hl => va_sld hx hbc hX hbl (by unfold tw_A; rw [hb]; exact Nat.not_le.mpr hbl) hS (fun z => z.elim q.1 (Nat.not_le.mpr q.2)) hd (kk H locs ls hR hS hl)
  · cases ea
theorem tw_sln (h : tw_O p s m #[Value.ref b] meth c code RL 4 ret G) (hC : lw_At p s m meth c b L xs) (hb : G.2.2.2.2 = s.heap.size) (hd : decode code pc = .ok (.arraylength, 1)) (kk : tw_X p l e room_1 s m #[Value.ref b] below meth c 4 G σ cells slots Q (pc + 1) lv (.int (Int32.ofNat L) :: st)) : tw_X p l e room_1 s m #[Value.ref b] below meth c 4 G σ cells slots Q pc lv (.ref b :: st) := by
  obtain ⟨hx, hbc, -, -, -, -, hX, hbl, -, -⟩ := hC
  exact fun H locs ls hR hS hl => va_slen hx hbc hX hbl (by unfold tw_A; rw [hb]; exact Nat.not_le.mpr hbl) hS hd (kk H locs ls hR hS hl)
theorem tw_lret (h : tw_O p s m #[Value.ref b] meth c code RL 4 ret G) (hb : G.2.2.2.2 = s.heap.size) (hc : cells ≤ 600000) (hs : slots ≤ 7302250) (hd : decode code pc = .ok (.ireturn, 1)) : tw_X p l e room_1 s m #[Value.ref b] below meth c 4 G σ cells slots (lw_Z below #[Value.ref b] s) pc lv [.int 1] := by
  intro H locs ls hR hS hl
  refine va_forget (fun q hq => ?_) ?_
  · have := hS.2.2 q hq
    unfold tw_A at this
    rw [hb] at this
    exact this
  · refine W.widen hc hs ?_
    exact lw_ret h.1 h.2.1 h.2.2.2.2.2.2.1 h.2.2.2.2.2.1 hd
set_option maxRecDepth 100000 in
set_option maxHeartbeats 4000000 in
theorem wL_law_b732 (hO : tw_O p s m #[Value.ref b] meth c code RL 4 ret G) (hC : lw_At p s m meth c b L xs) (hb : G.2.2.2.2 = s.heap.size) {k18 : (tw_St → Nat → Nat → Int32 → Option (Int32))} (hk18 : ∀ (σ : tw_St) (a1 : Nat) (a2 : Nat) (x3 : Int32), k18 σ a1 a2 x3 = some 1 → tw_X p l e room_1 s m #[Value.ref b] below meth c 4 G σ 180 6144 (lw_Z below #[Value.ref b] s) 18 [(0, .ref b), (1, .ref a1), (2, .ref a2), (3, .int x3)] []) {σ : tw_St} {a1 : Nat} {a2 : Nat} {x3 : Int32} (h : fL_law_b732 xs L k18 σ a1 a2 x3 = some 1) : tw_X p l e room_1 s m #[Value.ref b] below meth c 4 G σ 180 6144 (lw_Z below #[Value.ref b] s) 732 [(0, .ref b), (1, .ref a1), (2, .ref a2), (3, .int x3)] [] := by
  unfold fL_law_b732 at h
  refine tw_iinc (q := 3) (v := (x3 + 4)) (lv' := [(3, .int (x3 + 4)), (0, .ref b), (1, .ref a1), (2, .ref a2)]) hO dL_law_732 rfl rfl (by decide) rfl ?_
  refine tw_goto (tgt := 18) hO dL_law_735 (by decide) ?_
  refine tw_sub [1, 2, 3, 0] rfl ?_
  exact hk18 _ _ _ _ h
set_option maxRecDepth 100000 in
set_option maxHeartbeats 4000000 in
theorem wL_law_h18 (hO : tw_O p s m #[Value.ref b] meth c code RL 4 ret G) (hC : lw_At p s m meth c b L xs) (hb : G.2.2.2.2 = s.heap.size) {k18 : (tw_St → Nat → Nat → Int32 → Option (Int32))} (hk18 : ∀ (σ : tw_St) (a1 : Nat) (a2 : Nat) (x3 : Int32), k18 σ a1 a2 x3 = some 1 → tw_X p l e room_1 s m #[Value.ref b] below meth c 4 G σ 180 6144 (lw_Z below #[Value.ref b] s) 18 [(0, .ref b), (1, .ref a1), (2, .ref a2), (3, .int x3)] []) {σ : tw_St} {a1 : Nat} {a2 : Nat} {x3 : Int32} (h : fL_law_h18 xs L k18 σ a1 a2 x3 = some 1) : tw_X p l e room_1 s m #[Value.ref b] below meth c 4 G σ 180 6144 (lw_Z below #[Value.ref b] s) 18 [(0, .ref b), (1, .ref a1), (2, .ref a2), (3, .int x3)] [] := by
  unfold fL_law_h18 at h
  refine tw_iload_n 3 hO dL_law_18 rfl rfl ?_
  refine tw_aload_n 0 hO dL_law_19 rfl rfl ?_
  refine tw_sln hO hC hb dL_law_20 ?_
  refine tw_iconst (v := 4) hO dL_law_21 (by decide) ?_
  refine tw_isub hO dL_law_22 ?_
  refine tw_icmp_gt (tgt := 738) hO dL_law_23 (by decide) (fun cc => ?_) (fun cc => ?_)
  · replace h := tw_ifp cc h
    refine tw_iconst (v := 1) hO dL_law_738 (by decide) ?_
    exact tw_lret hO hb (Nat.le_of_ble_eq_true rfl) (Nat.le_of_ble_eq_true rfl) dL_law_739
  · replace h := tw_ifn cc h
    refine tw_aload_n 0 hO dL_law_26 rfl rfl ?_
    refine tw_iload_n 3 hO dL_law_27 rfl rfl ?_
    obtain ⟨v28, e28, h⟩ := tw_bd h
    refine tw_sld hO hC hb dL_law_28 e28 ?_
    refine tw_bipush (v := 31) hO dL_law_29 (by decide) ?_
    refine tw_iand hO dL_law_31 ?_
    by_cases s0 : (v28 &&& 31) = 0
    · replace h := tw_ifp s0 h
      refine tw_tableIn (off := 104) (tgt := 136) hO dL_law_32 (by rw [s0]; decide) (by rw [s0]; decide) (by rw [s0]; rfl) (by decide) ?_
      refine tw_aload_n 1 hO dL_law_136 rfl rfl ?_
      refine tw_aload_n 0 hO dL_law_137 rfl rfl ?_
      refine tw_iload_n 3 hO dL_law_138 rfl rfl ?_
      refine tw_iconst (v := 1) hO dL_law_139 (by decide) ?_
      refine tw_iadd hO dL_law_140 ?_
      obtain ⟨v141, e141, h⟩ := tw_bd h
      refine tw_sld hO hC hb dL_law_141 e141 ?_
      refine tw_aload_n 0 hO dL_law_142 rfl rfl ?_
      refine tw_iload_n 3 hO dL_law_143 rfl rfl ?_
      refine tw_iconst (v := 2) hO dL_law_144 (by decide) ?_
      refine tw_iadd hO dL_law_145 ?_
      obtain ⟨v146, e146, h⟩ := tw_bd h
      refine tw_sld hO hC hb dL_law_146 e146 ?_
      obtain ⟨q147, e147, h⟩ := tw_bd h
      refine tw_cVi hO (mX7_set l G e147) cfX7_set (t := 7) rfl (kX7_set e147) tw_w272 tw_w273 tw_w274 rfl rfl rfl rfl ⟨(Nat.le_of_ble_eq_true rfl), (Nat.le_of_ble_eq_true rfl)⟩ (Nat.le_of_ble_eq_true rfl) ⟨(Nat.le_of_ble_eq_true rfl), (Nat.le_of_ble_eq_true rfl)⟩ dL_law_147 ?_
      refine tw_aload_n 2 hO dL_law_150 rfl rfl ?_
      refine tw_aload_n 0 hO dL_law_151 rfl rfl ?_
      refine tw_iload_n 3 hO dL_law_152 rfl rfl ?_
      refine tw_iconst (v := 1) hO dL_law_153 (by decide) ?_
      refine tw_iadd hO dL_law_154 ?_
      obtain ⟨v155, e155, h⟩ := tw_bd h
      refine tw_sld hO hC hb dL_law_155 e155 ?_
      refine tw_aload_n 0 hO dL_law_156 rfl rfl ?_
      refine tw_iload_n 3 hO dL_law_157 rfl rfl ?_
      refine tw_iconst (v := 2) hO dL_law_158 (by decide) ?_
      refine tw_iadd hO dL_law_159 ?_
      obtain ⟨v160, e160, h⟩ := tw_bd h
      refine tw_sld hO hC hb dL_law_160 e160 ?_
      obtain ⟨q161, e161, h⟩ := tw_bd h
      refine tw_cVi hO (mX8_set l G e161) cfX8_set (t := 8) rfl (kX8_set e161) tw_w668 tw_w669 tw_w670 rfl rfl rfl rfl ⟨(Nat.le_of_ble_eq_true rfl), (Nat.le_of_ble_eq_true rfl)⟩ (Nat.le_of_ble_eq_true rfl) ⟨(Nat.le_of_ble_eq_true rfl), (Nat.le_of_ble_eq_true rfl)⟩ dL_law_161 ?_
      refine tw_icmp_eq (tgt := 732) hO dL_law_164 (by decide) (fun cc => ?_) (fun cc => ?_)
      · replace h := tw_ifp cc h
        exact wL_law_b732 hO hC hb hk18 h
      · replace h := tw_ifn cc h
        refine tw_iconst (v := 0) hO dL_law_167 (by decide) ?_
        exact absurd (Option.some.inj h) (by decide)
    replace h := tw_ifn s0 h
    by_cases s1 : (v28 &&& 31) = 1
    · replace h := tw_ifp s1 h
      refine tw_tableIn (off := 137) (tgt := 169) hO dL_law_32 (by rw [s1]; decide) (by rw [s1]; decide) (by rw [s1]; rfl) (by decide) ?_
      refine tw_aload_n 1 hO dL_law_169 rfl rfl ?_
      refine tw_aload_n 0 hO dL_law_170 rfl rfl ?_
      refine tw_iload_n 3 hO dL_law_171 rfl rfl ?_
      refine tw_iconst (v := 1) hO dL_law_172 (by decide) ?_
      refine tw_iadd hO dL_law_173 ?_
      obtain ⟨v174, e174, h⟩ := tw_bd h
      refine tw_sld hO hC hb dL_law_174 e174 ?_
      refine tw_i2l hO dL_law_175 ?_
      refine tw_bipush (v := 32) hO dL_law_176 (by decide) ?_
      refine tw_lshl hO dL_law_178 ?_
      refine tw_aload_n 0 hO dL_law_179 rfl rfl ?_
      refine tw_iload_n 3 hO dL_law_180 rfl rfl ?_
      refine tw_iconst (v := 2) hO dL_law_181 (by decide) ?_
      refine tw_iadd hO dL_law_182 ?_
      obtain ⟨v183, e183, h⟩ := tw_bd h
      refine tw_sld hO hC hb dL_law_183 e183 ?_
      refine tw_i2l hO dL_law_184 ?_
      refine tw_ldc2 hO tw_w870 dL_law_185 ?_
      refine tw_land hO dL_law_188 ?_
      refine tw_lor hO dL_law_189 ?_
      obtain ⟨q190, e190, h⟩ := tw_bd h
      refine tw_cVi hO (mX7_put l G e190) cfX7_put (t := 7) rfl (kX7_put e190) tw_w385 tw_w386 tw_w387 rfl rfl rfl rfl ⟨(Nat.le_of_ble_eq_true rfl), (Nat.le_of_ble_eq_true rfl)⟩ (Nat.le_of_ble_eq_true rfl) ⟨(Nat.le_of_ble_eq_true rfl), (Nat.le_of_ble_eq_true rfl)⟩ dL_law_190 ?_
      refine tw_aload_n 2 hO dL_law_193 rfl rfl ?_
      refine tw_aload_n 0 hO dL_law_194 rfl rfl ?_
      refine tw_iload_n 3 hO dL_law_195 rfl rfl ?_
      refine tw_iconst (v := 1) hO dL_law_196 (by decide) ?_
      refine tw_iadd hO dL_law_197 ?_
      obtain ⟨v198, e198, h⟩ := tw_bd h
      refine tw_sld hO hC hb dL_law_198 e198 ?_
      refine tw_i2l hO dL_law_199 ?_
      refine tw_bipush (v := 32) hO dL_law_200 (by decide) ?_
      refine tw_lshl hO dL_law_202 ?_
      refine tw_aload_n 0 hO dL_law_203 rfl rfl ?_
      refine tw_iload_n 3 hO dL_law_204 rfl rfl ?_
      refine tw_iconst (v := 2) hO dL_law_205 (by decide) ?_
      refine tw_iadd hO dL_law_206 ?_
      obtain ⟨v207, e207, h⟩ := tw_bd h
      refine tw_sld hO hC hb dL_law_207 e207 ?_
      refine tw_i2l hO dL_law_208 ?_
      refine tw_ldc2 hO tw_w870 dL_law_209 ?_
      refine tw_land hO dL_law_212 ?_
      refine tw_lor hO dL_law_213 ?_
      obtain ⟨q214, e214, h⟩ := tw_bd h
      refine tw_cVi hO (mX8_put l G e214) cfX8_put (t := 8) rfl (kX8_put e214) tw_w686 tw_w687 tw_w688 rfl rfl rfl rfl ⟨(Nat.le_of_ble_eq_true rfl), (Nat.le_of_ble_eq_true rfl)⟩ (Nat.le_of_ble_eq_true rfl) ⟨(Nat.le_of_ble_eq_true rfl), (Nat.le_of_ble_eq_true rfl)⟩ dL_law_214 ?_
      refine tw_icmp_eq (tgt := 732) hO dL_law_217 (by decide) (fun cc => ?_) (fun cc => ?_)
      · replace h := tw_ifp cc h
        exact wL_law_b732 hO hC hb hk18 h
      · replace h := tw_ifn cc h
        refine tw_iconst (v := 0) hO dL_law_220 (by decide) ?_
        exact absurd (Option.some.inj h) (by decide)
    replace h := tw_ifn s1 h
    by_cases s2 : (v28 &&& 31) = 2
    · replace h := tw_ifp s2 h
      refine tw_tableIn (off := 190) (tgt := 222) hO dL_law_32 (by rw [s2]; decide) (by rw [s2]; decide) (by rw [s2]; rfl) (by decide) ?_
      refine tw_aload_n 1 hO dL_law_222 rfl rfl ?_
      obtain ⟨q223, e223, h⟩ := tw_bd h
      refine tw_cVi hO (mX7_wipe l G e223) cfX7_wipe (t := 7) rfl (kX7_wipe e223) tw_w399 tw_w400 tw_w401 rfl rfl rfl rfl ⟨(Nat.le_of_ble_eq_true rfl), (Nat.le_of_ble_eq_true rfl)⟩ (Nat.le_of_ble_eq_true rfl) ⟨(Nat.le_of_ble_eq_true rfl), (Nat.le_of_ble_eq_true rfl)⟩ dL_law_223 ?_
      refine tw_aload_n 2 hO dL_law_226 rfl rfl ?_
      obtain ⟨q227, e227, h⟩ := tw_bd h
      refine tw_cVi hO (mX8_wipe l G e227) cfX8_wipe (t := 8) rfl (kX8_wipe e227) tw_w691 tw_w692 tw_w693 rfl rfl rfl rfl ⟨(Nat.le_of_ble_eq_true rfl), (Nat.le_of_ble_eq_true rfl)⟩ (Nat.le_of_ble_eq_true rfl) ⟨(Nat.le_of_ble_eq_true rfl), (Nat.le_of_ble_eq_true rfl)⟩ dL_law_227 ?_
      refine tw_icmp_eq (tgt := 732) hO dL_law_230 (by decide) (fun cc => ?_) (fun cc => ?_)
      · replace h := tw_ifp cc h
        exact wL_law_b732 hO hC hb hk18 h
      · replace h := tw_ifn cc h
        refine tw_iconst (v := 0) hO dL_law_233 (by decide) ?_
        exact absurd (Option.some.inj h) (by decide)
    replace h := tw_ifn s2 h
    by_cases s3 : (v28 &&& 31) = 3
    · replace h := tw_ifp s3 h
      refine tw_tableIn (off := 203) (tgt := 235) hO dL_law_32 (by rw [s3]; decide) (by rw [s3]; decide) (by rw [s3]; rfl) (by decide) ?_
      refine tw_aload_n 1 hO dL_law_235 rfl rfl ?_
      obtain ⟨q236, e236, h⟩ := tw_bd h
      refine tw_cVi hO (mX7_fault l G e236) cfX7_fault (t := 7) rfl (kX7_fault e236) tw_w403 tw_w404 tw_w405 rfl rfl rfl rfl ⟨(Nat.le_of_ble_eq_true rfl), (Nat.le_of_ble_eq_true rfl)⟩ (Nat.le_of_ble_eq_true rfl) ⟨(Nat.le_of_ble_eq_true rfl), (Nat.le_of_ble_eq_true rfl)⟩ dL_law_236 ?_
      refine tw_aload_n 2 hO dL_law_239 rfl rfl ?_
      obtain ⟨q240, e240, h⟩ := tw_bd h
      refine tw_cVi hO (mX8_fault l G e240) cfX8_fault (t := 8) rfl (kX8_fault e240) tw_w695 tw_w696 tw_w697 rfl rfl rfl rfl ⟨(Nat.le_of_ble_eq_true rfl), (Nat.le_of_ble_eq_true rfl)⟩ (Nat.le_of_ble_eq_true rfl) ⟨(Nat.le_of_ble_eq_true rfl), (Nat.le_of_ble_eq_true rfl)⟩ dL_law_240 ?_
      refine tw_icmp_eq (tgt := 732) hO dL_law_243 (by decide) (fun cc => ?_) (fun cc => ?_)
      · replace h := tw_ifp cc h
        exact wL_law_b732 hO hC hb hk18 h
      · replace h := tw_ifn cc h
        refine tw_iconst (v := 0) hO dL_law_246 (by decide) ?_
        exact absurd (Option.some.inj h) (by decide)
    replace h := tw_ifn s3 h
    by_cases s4 : (v28 &&& 31) = 4
    · replace h := tw_ifp s4 h
      refine tw_tableIn (off := 216) (tgt := 248) hO dL_law_32 (by rw [s4]; decide) (by rw [s4]; decide) (by rw [s4]; rfl) (by decide) ?_
      refine tw_aload_n 1 hO dL_law_248 rfl rfl ?_
      refine tw_aload_n 0 hO dL_law_249 rfl rfl ?_
      refine tw_iload_n 3 hO dL_law_250 rfl rfl ?_
      refine tw_iconst (v := 1) hO dL_law_251 (by decide) ?_
      refine tw_iadd hO dL_law_252 ?_
      obtain ⟨v253, e253, h⟩ := tw_bd h
      refine tw_sld hO hC hb dL_law_253 e253 ?_
      obtain ⟨q254, e254, h⟩ := tw_bd h
      refine tw_cVi hO (mX7_program l G e254) cfX7_program (t := 7) rfl (kX7_program e254) tw_w455 tw_w456 tw_w457 rfl rfl rfl rfl ⟨(Nat.le_of_ble_eq_true rfl), (Nat.le_of_ble_eq_true rfl)⟩ (Nat.le_of_ble_eq_true rfl) ⟨(Nat.le_of_ble_eq_true rfl), (Nat.le_of_ble_eq_true rfl)⟩ dL_law_254 ?_
      refine tw_aload_n 2 hO dL_law_257 rfl rfl ?_
      refine tw_aload_n 0 hO dL_law_258 rfl rfl ?_
      refine tw_iload_n 3 hO dL_law_259 rfl rfl ?_
      refine tw_iconst (v := 1) hO dL_law_260 (by decide) ?_
      refine tw_iadd hO dL_law_261 ?_
      obtain ⟨v262, e262, h⟩ := tw_bd h
      refine tw_sld hO hC hb dL_law_262 e262 ?_
      obtain ⟨q263, e263, h⟩ := tw_bd h
      refine tw_cVi hO (mX8_program l G e263) cfX8_program (t := 8) rfl (kX8_program e263) tw_w731 tw_w732 tw_w733 rfl rfl rfl rfl ⟨(Nat.le_of_ble_eq_true rfl), (Nat.le_of_ble_eq_true rfl)⟩ (Nat.le_of_ble_eq_true rfl) ⟨(Nat.le_of_ble_eq_true rfl), (Nat.le_of_ble_eq_true rfl)⟩ dL_law_263 ?_
      refine tw_icmp_eq (tgt := 732) hO dL_law_266 (by decide) (fun cc => ?_) (fun cc => ?_)
      · replace h := tw_ifp cc h
        exact wL_law_b732 hO hC hb hk18 h
      · replace h := tw_ifn cc h
        refine tw_iconst (v := 0) hO dL_law_269 (by decide) ?_
        exact absurd (Option.some.inj h) (by decide)
    replace h := tw_ifn s4 h
    by_cases s5 : (v28 &&& 31) = 5
    · replace h := tw_ifp s5 h
      refine tw_tableIn (off := 239) (tgt := 271) hO dL_law_32 (by rw [s5]; decide) (by rw [s5]; decide) (by rw [s5]; rfl) (by decide) ?_
      refine tw_aload_n 1 hO dL_law_271 rfl rfl ?_
      refine tw_aload_n 0 hO dL_law_272 rfl rfl ?_
      refine tw_iload_n 3 hO dL_law_273 rfl rfl ?_
      refine tw_iconst (v := 1) hO dL_law_274 (by decide) ?_
      refine tw_iadd hO dL_law_275 ?_
      obtain ⟨v276, e276, h⟩ := tw_bd h
      refine tw_sld hO hC hb dL_law_276 e276 ?_
      obtain ⟨q277, e277, h⟩ := tw_bd h
      refine tw_cVi hO (mX7_drop l G e277) cfX7_drop (t := 7) rfl (kX7_drop e277) tw_w463 tw_w464 tw_w465 rfl rfl rfl rfl ⟨(Nat.le_of_ble_eq_true rfl), (Nat.le_of_ble_eq_true rfl)⟩ (Nat.le_of_ble_eq_true rfl) ⟨(Nat.le_of_ble_eq_true rfl), (Nat.le_of_ble_eq_true rfl)⟩ dL_law_277 ?_
      refine tw_aload_n 2 hO dL_law_280 rfl rfl ?_
      refine tw_aload_n 0 hO dL_law_281 rfl rfl ?_
      refine tw_iload_n 3 hO dL_law_282 rfl rfl ?_
      refine tw_iconst (v := 1) hO dL_law_283 (by decide) ?_
      refine tw_iadd hO dL_law_284 ?_
      obtain ⟨v285, e285, h⟩ := tw_bd h
      refine tw_sld hO hC hb dL_law_285 e285 ?_
      obtain ⟨q286, e286, h⟩ := tw_bd h
      refine tw_cVi hO (mX8_drop l G e286) cfX8_drop (t := 8) rfl (kX8_drop e286) tw_w735 tw_w736 tw_w737 rfl rfl rfl rfl ⟨(Nat.le_of_ble_eq_true rfl), (Nat.le_of_ble_eq_true rfl)⟩ (Nat.le_of_ble_eq_true rfl) ⟨(Nat.le_of_ble_eq_true rfl), (Nat.le_of_ble_eq_true rfl)⟩ dL_law_286 ?_
      refine tw_icmp_eq (tgt := 732) hO dL_law_289 (by decide) (fun cc => ?_) (fun cc => ?_)
      · replace h := tw_ifp cc h
        exact wL_law_b732 hO hC hb hk18 h
      · replace h := tw_ifn cc h
        refine tw_iconst (v := 0) hO dL_law_292 (by decide) ?_
        exact absurd (Option.some.inj h) (by decide)
    replace h := tw_ifn s5 h
    by_cases s6 : (v28 &&& 31) = 6
    · replace h := tw_ifp s6 h
      refine tw_tableIn (off := 262) (tgt := 294) hO dL_law_32 (by rw [s6]; decide) (by rw [s6]; decide) (by rw [s6]; rfl) (by decide) ?_
      refine tw_aload_n 1 hO dL_law_294 rfl rfl ?_
      refine tw_aload_n 0 hO dL_law_295 rfl rfl ?_
      refine tw_iload_n 3 hO dL_law_296 rfl rfl ?_
      refine tw_iconst (v := 1) hO dL_law_297 (by decide) ?_
      refine tw_iadd hO dL_law_298 ?_
      obtain ⟨v299, e299, h⟩ := tw_bd h
      refine tw_sld hO hC hb dL_law_299 e299 ?_
      refine tw_aload_n 0 hO dL_law_300 rfl rfl ?_
      refine tw_iload_n 3 hO dL_law_301 rfl rfl ?_
      refine tw_iconst (v := 2) hO dL_law_302 (by decide) ?_
      refine tw_iadd hO dL_law_303 ?_
      obtain ⟨v304, e304, h⟩ := tw_bd h
      refine tw_sld hO hC hb dL_law_304 e304 ?_
      refine tw_aload_n 0 hO dL_law_305 rfl rfl ?_
      refine tw_iload_n 3 hO dL_law_306 rfl rfl ?_
      refine tw_iconst (v := 3) hO dL_law_307 (by decide) ?_
      refine tw_iadd hO dL_law_308 ?_
      obtain ⟨v309, e309, h⟩ := tw_bd h
      refine tw_sld hO hC hb dL_law_309 e309 ?_
      obtain ⟨q310, e310, h⟩ := tw_bd h
      refine tw_cVi hO (mX7_first l G e310) cfX7_first (t := 7) rfl (kX7_first e310) tw_w467 tw_w468 tw_w469 rfl rfl rfl rfl ⟨(Nat.le_of_ble_eq_true rfl), (Nat.le_of_ble_eq_true rfl)⟩ (Nat.le_of_ble_eq_true rfl) ⟨(Nat.le_of_ble_eq_true rfl), (Nat.le_of_ble_eq_true rfl)⟩ dL_law_310 ?_
      refine tw_aload_n 2 hO dL_law_313 rfl rfl ?_
      refine tw_aload_n 0 hO dL_law_314 rfl rfl ?_
      refine tw_iload_n 3 hO dL_law_315 rfl rfl ?_
      refine tw_iconst (v := 1) hO dL_law_316 (by decide) ?_
      refine tw_iadd hO dL_law_317 ?_
      obtain ⟨v318, e318, h⟩ := tw_bd h
      refine tw_sld hO hC hb dL_law_318 e318 ?_
      refine tw_aload_n 0 hO dL_law_319 rfl rfl ?_
      refine tw_iload_n 3 hO dL_law_320 rfl rfl ?_
      refine tw_iconst (v := 2) hO dL_law_321 (by decide) ?_
      refine tw_iadd hO dL_law_322 ?_
      obtain ⟨v323, e323, h⟩ := tw_bd h
      refine tw_sld hO hC hb dL_law_323 e323 ?_
      refine tw_aload_n 0 hO dL_law_324 rfl rfl ?_
      refine tw_iload_n 3 hO dL_law_325 rfl rfl ?_
      refine tw_iconst (v := 3) hO dL_law_326 (by decide) ?_
      refine tw_iadd hO dL_law_327 ?_
      obtain ⟨v328, e328, h⟩ := tw_bd h
      refine tw_sld hO hC hb dL_law_328 e328 ?_
      obtain ⟨q329, e329, h⟩ := tw_bd h
      refine tw_cVi hO (mX8_first l G e329) cfX8_first (t := 8) rfl (kX8_first e329) tw_w679 tw_w680 tw_w681 rfl rfl rfl rfl ⟨(Nat.le_of_ble_eq_true rfl), (Nat.le_of_ble_eq_true rfl)⟩ (Nat.le_of_ble_eq_true rfl) ⟨(Nat.le_of_ble_eq_true rfl), (Nat.le_of_ble_eq_true rfl)⟩ dL_law_329 ?_
      refine tw_icmp_eq (tgt := 732) hO dL_law_332 (by decide) (fun cc => ?_) (fun cc => ?_)
      · replace h := tw_ifp cc h
        exact wL_law_b732 hO hC hb hk18 h
      · replace h := tw_ifn cc h
        refine tw_iconst (v := 0) hO dL_law_335 (by decide) ?_
        exact absurd (Option.some.inj h) (by decide)
    replace h := tw_ifn s6 h
    by_cases s7 : (v28 &&& 31) = 7
    · replace h := tw_ifp s7 h
      refine tw_tableIn (off := 305) (tgt := 337) hO dL_law_32 (by rw [s7]; decide) (by rw [s7]; decide) (by rw [s7]; rfl) (by decide) ?_
      refine tw_aload_n 1 hO dL_law_337 rfl rfl ?_
      obtain ⟨q338, e338, h⟩ := tw_bd h
      refine tw_cVi hO (mX7_exchange l G e338) cfX7_exchange (t := 7) rfl (kX7_exchange e338) tw_w471 tw_w472 tw_w473 rfl rfl rfl rfl ⟨(Nat.le_of_ble_eq_true rfl), (Nat.le_of_ble_eq_true rfl)⟩ (Nat.le_of_ble_eq_true rfl) ⟨(Nat.le_of_ble_eq_true rfl), (Nat.le_of_ble_eq_true rfl)⟩ dL_law_338 ?_
      refine tw_aload_n 2 hO dL_law_341 rfl rfl ?_
      obtain ⟨q342, e342, h⟩ := tw_bd h
      refine tw_cVi hO (mX8_exchange l G e342) cfX8_exchange (t := 8) rfl (kX8_exchange e342) tw_w743 tw_w744 tw_w745 rfl rfl rfl rfl ⟨(Nat.le_of_ble_eq_true rfl), (Nat.le_of_ble_eq_true rfl)⟩ (Nat.le_of_ble_eq_true rfl) ⟨(Nat.le_of_ble_eq_true rfl), (Nat.le_of_ble_eq_true rfl)⟩ dL_law_342 ?_
      refine tw_icmp_eq (tgt := 732) hO dL_law_345 (by decide) (fun cc => ?_) (fun cc => ?_)
      · replace h := tw_ifp cc h
        exact wL_law_b732 hO hC hb hk18 h
      · replace h := tw_ifn cc h
        refine tw_iconst (v := 0) hO dL_law_348 (by decide) ?_
        exact absurd (Option.some.inj h) (by decide)
    replace h := tw_ifn s7 h
    by_cases s8 : (v28 &&& 31) = 8
    · replace h := tw_ifp s8 h
      refine tw_tableIn (off := 318) (tgt := 350) hO dL_law_32 (by rw [s8]; decide) (by rw [s8]; decide) (by rw [s8]; rfl) (by decide) ?_
      refine tw_aload_n 1 hO dL_law_350 rfl rfl ?_
      refine tw_aload_n 0 hO dL_law_351 rfl rfl ?_
      refine tw_iload_n 3 hO dL_law_352 rfl rfl ?_
      refine tw_iconst (v := 1) hO dL_law_353 (by decide) ?_
      refine tw_iadd hO dL_law_354 ?_
      obtain ⟨v355, e355, h⟩ := tw_bd h
      refine tw_sld hO hC hb dL_law_355 e355 ?_
      refine tw_aload_n 0 hO dL_law_356 rfl rfl ?_
      refine tw_iload_n 3 hO dL_law_357 rfl rfl ?_
      refine tw_iconst (v := 2) hO dL_law_358 (by decide) ?_
      refine tw_iadd hO dL_law_359 ?_
      obtain ⟨v360, e360, h⟩ := tw_bd h
      refine tw_sld hO hC hb dL_law_360 e360 ?_
      refine tw_aload_n 0 hO dL_law_361 rfl rfl ?_
      refine tw_iload_n 3 hO dL_law_362 rfl rfl ?_
      refine tw_iconst (v := 3) hO dL_law_363 (by decide) ?_
      refine tw_iadd hO dL_law_364 ?_
      obtain ⟨v365, e365, h⟩ := tw_bd h
      refine tw_sld hO hC hb dL_law_365 e365 ?_
      obtain ⟨v366, e366, h⟩ := tw_bd h
      refine tw_cVi hO (mX7_ofOrder l G e366) cfX7_ofOrder (t := 7) rfl (kX7_ofOrder e366) tw_w483 tw_w484 tw_w485 rfl rfl rfl rfl ⟨(Nat.le_of_ble_eq_true rfl), (Nat.le_of_ble_eq_true rfl)⟩ (Nat.le_of_ble_eq_true rfl) ⟨(Nat.le_of_ble_eq_true rfl), (Nat.le_of_ble_eq_true rfl)⟩ dL_law_366 ?_
      refine tw_aload_n 2 hO dL_law_369 rfl rfl ?_
      refine tw_aload_n 0 hO dL_law_370 rfl rfl ?_
      refine tw_iload_n 3 hO dL_law_371 rfl rfl ?_
      refine tw_iconst (v := 1) hO dL_law_372 (by decide) ?_
      refine tw_iadd hO dL_law_373 ?_
      obtain ⟨v374, e374, h⟩ := tw_bd h
      refine tw_sld hO hC hb dL_law_374 e374 ?_
      refine tw_aload_n 0 hO dL_law_375 rfl rfl ?_
      refine tw_iload_n 3 hO dL_law_376 rfl rfl ?_
      refine tw_iconst (v := 2) hO dL_law_377 (by decide) ?_
      refine tw_iadd hO dL_law_378 ?_
      obtain ⟨v379, e379, h⟩ := tw_bd h
      refine tw_sld hO hC hb dL_law_379 e379 ?_
      refine tw_aload_n 0 hO dL_law_380 rfl rfl ?_
      refine tw_iload_n 3 hO dL_law_381 rfl rfl ?_
      refine tw_iconst (v := 3) hO dL_law_382 (by decide) ?_
      refine tw_iadd hO dL_law_383 ?_
      obtain ⟨v384, e384, h⟩ := tw_bd h
      refine tw_sld hO hC hb dL_law_384 e384 ?_
      obtain ⟨v385, e385, h⟩ := tw_bd h
      refine tw_cVi hO (mX8_ofOrder l G e385) cfX8_ofOrder (t := 8) rfl (kX8_ofOrder e385) tw_w798 tw_w799 tw_w800 rfl rfl rfl rfl ⟨(Nat.le_of_ble_eq_true rfl), (Nat.le_of_ble_eq_true rfl)⟩ (Nat.le_of_ble_eq_true rfl) ⟨(Nat.le_of_ble_eq_true rfl), (Nat.le_of_ble_eq_true rfl)⟩ dL_law_385 ?_
      refine tw_icmp_eq (tgt := 732) hO dL_law_388 (by decide) (fun cc => ?_) (fun cc => ?_)
      · replace h := tw_ifp cc h
        exact wL_law_b732 hO hC hb hk18 h
      · replace h := tw_ifn cc h
        refine tw_iconst (v := 0) hO dL_law_391 (by decide) ?_
        exact absurd (Option.some.inj h) (by decide)
    replace h := tw_ifn s8 h
    by_cases s9 : (v28 &&& 31) = 9
    · replace h := tw_ifp s9 h
      refine tw_tableIn (off := 361) (tgt := 393) hO dL_law_32 (by rw [s9]; decide) (by rw [s9]; decide) (by rw [s9]; rfl) (by decide) ?_
      refine tw_aload_n 1 hO dL_law_393 rfl rfl ?_
      refine tw_aload_n 0 hO dL_law_394 rfl rfl ?_
      refine tw_iload_n 3 hO dL_law_395 rfl rfl ?_
      refine tw_iconst (v := 1) hO dL_law_396 (by decide) ?_
      refine tw_iadd hO dL_law_397 ?_
      obtain ⟨v398, e398, h⟩ := tw_bd h
      refine tw_sld hO hC hb dL_law_398 e398 ?_
      refine tw_aload_n 0 hO dL_law_399 rfl rfl ?_
      refine tw_iload_n 3 hO dL_law_400 rfl rfl ?_
      refine tw_iconst (v := 2) hO dL_law_401 (by decide) ?_
      refine tw_iadd hO dL_law_402 ?_
      obtain ⟨v403, e403, h⟩ := tw_bd h
      refine tw_sld hO hC hb dL_law_403 e403 ?_
      obtain ⟨v404, e404, h⟩ := tw_bd h
      refine tw_cVi hO (mX7_ofThread l G e404) cfX7_ofThread (t := 7) rfl (kX7_ofThread e404) tw_w488 tw_w489 tw_w490 rfl rfl rfl rfl ⟨(Nat.le_of_ble_eq_true rfl), (Nat.le_of_ble_eq_true rfl)⟩ (Nat.le_of_ble_eq_true rfl) ⟨(Nat.le_of_ble_eq_true rfl), (Nat.le_of_ble_eq_true rfl)⟩ dL_law_404 ?_
      refine tw_aload_n 2 hO dL_law_407 rfl rfl ?_
      refine tw_aload_n 0 hO dL_law_408 rfl rfl ?_
      refine tw_iload_n 3 hO dL_law_409 rfl rfl ?_
      refine tw_iconst (v := 1) hO dL_law_410 (by decide) ?_
      refine tw_iadd hO dL_law_411 ?_
      obtain ⟨v412, e412, h⟩ := tw_bd h
      refine tw_sld hO hC hb dL_law_412 e412 ?_
      refine tw_aload_n 0 hO dL_law_413 rfl rfl ?_
      refine tw_iload_n 3 hO dL_law_414 rfl rfl ?_
      refine tw_iconst (v := 2) hO dL_law_415 (by decide) ?_
      refine tw_iadd hO dL_law_416 ?_
      obtain ⟨v417, e417, h⟩ := tw_bd h
      refine tw_sld hO hC hb dL_law_417 e417 ?_
      obtain ⟨q418, e418, h⟩ := tw_bd h
      refine tw_cVi hO (mX8_ofThread l G e418) cfX8_ofThread (t := 8) rfl (kX8_ofThread e418) tw_w802 tw_w803 tw_w804 rfl rfl rfl rfl ⟨(Nat.le_of_ble_eq_true rfl), (Nat.le_of_ble_eq_true rfl)⟩ (Nat.le_of_ble_eq_true rfl) ⟨(Nat.le_of_ble_eq_true rfl), (Nat.le_of_ble_eq_true rfl)⟩ dL_law_418 ?_
      refine tw_icmp_eq (tgt := 732) hO dL_law_421 (by decide) (fun cc => ?_) (fun cc => ?_)
      · replace h := tw_ifp cc h
        exact wL_law_b732 hO hC hb hk18 h
      · replace h := tw_ifn cc h
        refine tw_iconst (v := 0) hO dL_law_424 (by decide) ?_
        exact absurd (Option.some.inj h) (by decide)
    replace h := tw_ifn s9 h
    by_cases s10 : (v28 &&& 31) = 10
    · replace h := tw_ifp s10 h
      refine tw_tableIn (off := 394) (tgt := 426) hO dL_law_32 (by rw [s10]; decide) (by rw [s10]; decide) (by rw [s10]; rfl) (by decide) ?_
      refine tw_aload_n 1 hO dL_law_426 rfl rfl ?_
      refine tw_aload_n 0 hO dL_law_427 rfl rfl ?_
      refine tw_iload_n 3 hO dL_law_428 rfl rfl ?_
      refine tw_iconst (v := 1) hO dL_law_429 (by decide) ?_
      refine tw_iadd hO dL_law_430 ?_
      obtain ⟨v431, e431, h⟩ := tw_bd h
      refine tw_sld hO hC hb dL_law_431 e431 ?_
      refine tw_aload_n 0 hO dL_law_432 rfl rfl ?_
      refine tw_iload_n 3 hO dL_law_433 rfl rfl ?_
      refine tw_iconst (v := 2) hO dL_law_434 (by decide) ?_
      refine tw_iadd hO dL_law_435 ?_
      obtain ⟨v436, e436, h⟩ := tw_bd h
      refine tw_sld hO hC hb dL_law_436 e436 ?_
      obtain ⟨v437, e437, h⟩ := tw_bd h
      refine tw_cVi hO (mX7_last l G e437) cfX7_last (t := 7) rfl (kX7_last e437) tw_w497 tw_w498 tw_w499 rfl rfl rfl rfl ⟨(Nat.le_of_ble_eq_true rfl), (Nat.le_of_ble_eq_true rfl)⟩ (Nat.le_of_ble_eq_true rfl) ⟨(Nat.le_of_ble_eq_true rfl), (Nat.le_of_ble_eq_true rfl)⟩ dL_law_437 ?_
      refine tw_aload_n 2 hO dL_law_440 rfl rfl ?_
      refine tw_aload_n 0 hO dL_law_441 rfl rfl ?_
      refine tw_iload_n 3 hO dL_law_442 rfl rfl ?_
      refine tw_iconst (v := 1) hO dL_law_443 (by decide) ?_
      refine tw_iadd hO dL_law_444 ?_
      obtain ⟨v445, e445, h⟩ := tw_bd h
      refine tw_sld hO hC hb dL_law_445 e445 ?_
      refine tw_aload_n 0 hO dL_law_446 rfl rfl ?_
      refine tw_iload_n 3 hO dL_law_447 rfl rfl ?_
      refine tw_iconst (v := 2) hO dL_law_448 (by decide) ?_
      refine tw_iadd hO dL_law_449 ?_
      obtain ⟨v450, e450, h⟩ := tw_bd h
      refine tw_sld hO hC hb dL_law_450 e450 ?_
      obtain ⟨q451, e451, h⟩ := tw_bd h
      refine tw_cVi hO (mX8_last l G e451) cfX8_last (t := 8) rfl (kX8_last e451) tw_w810 tw_w811 tw_w812 rfl rfl rfl rfl ⟨(Nat.le_of_ble_eq_true rfl), (Nat.le_of_ble_eq_true rfl)⟩ (Nat.le_of_ble_eq_true rfl) ⟨(Nat.le_of_ble_eq_true rfl), (Nat.le_of_ble_eq_true rfl)⟩ dL_law_451 ?_
      refine tw_icmp_eq (tgt := 732) hO dL_law_454 (by decide) (fun cc => ?_) (fun cc => ?_)
      · replace h := tw_ifp cc h
        exact wL_law_b732 hO hC hb hk18 h
      · replace h := tw_ifn cc h
        refine tw_iconst (v := 0) hO dL_law_457 (by decide) ?_
        exact absurd (Option.some.inj h) (by decide)
    replace h := tw_ifn s10 h
    by_cases s11 : (v28 &&& 31) = 11
    · replace h := tw_ifp s11 h
      refine tw_tableIn (off := 427) (tgt := 459) hO dL_law_32 (by rw [s11]; decide) (by rw [s11]; decide) (by rw [s11]; rfl) (by decide) ?_
      refine tw_aload_n 1 hO dL_law_459 rfl rfl ?_
      refine tw_aload_n 0 hO dL_law_460 rfl rfl ?_
      refine tw_iload_n 3 hO dL_law_461 rfl rfl ?_
      refine tw_iconst (v := 1) hO dL_law_462 (by decide) ?_
      refine tw_iadd hO dL_law_463 ?_
      obtain ⟨v464, e464, h⟩ := tw_bd h
      refine tw_sld hO hC hb dL_law_464 e464 ?_
      refine tw_aload_n 0 hO dL_law_465 rfl rfl ?_
      refine tw_iload_n 3 hO dL_law_466 rfl rfl ?_
      refine tw_iconst (v := 2) hO dL_law_467 (by decide) ?_
      refine tw_iadd hO dL_law_468 ?_
      obtain ⟨v469, e469, h⟩ := tw_bd h
      refine tw_sld hO hC hb dL_law_469 e469 ?_
      refine tw_aload_n 0 hO dL_law_470 rfl rfl ?_
      refine tw_iload_n 3 hO dL_law_471 rfl rfl ?_
      refine tw_iconst (v := 3) hO dL_law_472 (by decide) ?_
      refine tw_iadd hO dL_law_473 ?_
      obtain ⟨v474, e474, h⟩ := tw_bd h
      refine tw_sld hO hC hb dL_law_474 e474 ?_
      obtain ⟨v475, e475, h⟩ := tw_bd h
      refine tw_cVi hO (mX7_ofStep l G e475) cfX7_ofStep (t := 7) rfl (kX7_ofStep e475) tw_w501 tw_w502 tw_w503 rfl rfl rfl rfl ⟨(Nat.le_of_ble_eq_true rfl), (Nat.le_of_ble_eq_true rfl)⟩ (Nat.le_of_ble_eq_true rfl) ⟨(Nat.le_of_ble_eq_true rfl), (Nat.le_of_ble_eq_true rfl)⟩ dL_law_475 ?_
      refine tw_aload_n 2 hO dL_law_478 rfl rfl ?_
      refine tw_aload_n 0 hO dL_law_479 rfl rfl ?_
      refine tw_iload_n 3 hO dL_law_480 rfl rfl ?_
      refine tw_iconst (v := 1) hO dL_law_481 (by decide) ?_
      refine tw_iadd hO dL_law_482 ?_
      obtain ⟨v483, e483, h⟩ := tw_bd h
      refine tw_sld hO hC hb dL_law_483 e483 ?_
      refine tw_aload_n 0 hO dL_law_484 rfl rfl ?_
      refine tw_iload_n 3 hO dL_law_485 rfl rfl ?_
      refine tw_iconst (v := 2) hO dL_law_486 (by decide) ?_
      refine tw_iadd hO dL_law_487 ?_
      obtain ⟨v488, e488, h⟩ := tw_bd h
      refine tw_sld hO hC hb dL_law_488 e488 ?_
      refine tw_aload_n 0 hO dL_law_489 rfl rfl ?_
      refine tw_iload_n 3 hO dL_law_490 rfl rfl ?_
      refine tw_iconst (v := 3) hO dL_law_491 (by decide) ?_
      refine tw_iadd hO dL_law_492 ?_
      obtain ⟨v493, e493, h⟩ := tw_bd h
      refine tw_sld hO hC hb dL_law_493 e493 ?_
      obtain ⟨q494, e494, h⟩ := tw_bd h
      refine tw_cVi hO (mX8_ofStep l G e494) cfX8_ofStep (t := 8) rfl (kX8_ofStep e494) tw_w814 tw_w815 tw_w816 rfl rfl rfl rfl ⟨(Nat.le_of_ble_eq_true rfl), (Nat.le_of_ble_eq_true rfl)⟩ (Nat.le_of_ble_eq_true rfl) ⟨(Nat.le_of_ble_eq_true rfl), (Nat.le_of_ble_eq_true rfl)⟩ dL_law_494 ?_
      refine tw_icmp_eq (tgt := 732) hO dL_law_497 (by decide) (fun cc => ?_) (fun cc => ?_)
      · replace h := tw_ifp cc h
        exact wL_law_b732 hO hC hb hk18 h
      · replace h := tw_ifn cc h
        refine tw_iconst (v := 0) hO dL_law_500 (by decide) ?_
        exact absurd (Option.some.inj h) (by decide)
    replace h := tw_ifn s11 h
    by_cases s12 : (v28 &&& 31) = 12
    · replace h := tw_ifp s12 h
      refine tw_tableIn (off := 470) (tgt := 502) hO dL_law_32 (by rw [s12]; decide) (by rw [s12]; decide) (by rw [s12]; rfl) (by decide) ?_
      refine tw_aload_n 1 hO dL_law_502 rfl rfl ?_
      refine tw_aload_n 0 hO dL_law_503 rfl rfl ?_
      refine tw_iload_n 3 hO dL_law_504 rfl rfl ?_
      refine tw_iconst (v := 1) hO dL_law_505 (by decide) ?_
      refine tw_iadd hO dL_law_506 ?_
      obtain ⟨v507, e507, h⟩ := tw_bd h
      refine tw_sld hO hC hb dL_law_507 e507 ?_
      refine tw_aload_n 0 hO dL_law_508 rfl rfl ?_
      refine tw_iload_n 3 hO dL_law_509 rfl rfl ?_
      refine tw_iconst (v := 2) hO dL_law_510 (by decide) ?_
      refine tw_iadd hO dL_law_511 ?_
      obtain ⟨v512, e512, h⟩ := tw_bd h
      refine tw_sld hO hC hb dL_law_512 e512 ?_
      obtain ⟨v513, e513, h⟩ := tw_bd h
      refine tw_cVi hO (mX7_at l G e513) cfX7_at (t := 7) rfl (kX7_at e513) tw_w509 tw_w510 tw_w511 rfl rfl rfl rfl ⟨(Nat.le_of_ble_eq_true rfl), (Nat.le_of_ble_eq_true rfl)⟩ (Nat.le_of_ble_eq_true rfl) ⟨(Nat.le_of_ble_eq_true rfl), (Nat.le_of_ble_eq_true rfl)⟩ dL_law_513 ?_
      refine tw_aload_n 2 hO dL_law_516 rfl rfl ?_
      refine tw_aload_n 0 hO dL_law_517 rfl rfl ?_
      refine tw_iload_n 3 hO dL_law_518 rfl rfl ?_
      refine tw_iconst (v := 1) hO dL_law_519 (by decide) ?_
      refine tw_iadd hO dL_law_520 ?_
      obtain ⟨v521, e521, h⟩ := tw_bd h
      refine tw_sld hO hC hb dL_law_521 e521 ?_
      refine tw_aload_n 0 hO dL_law_522 rfl rfl ?_
      refine tw_iload_n 3 hO dL_law_523 rfl rfl ?_
      refine tw_iconst (v := 2) hO dL_law_524 (by decide) ?_
      refine tw_iadd hO dL_law_525 ?_
      obtain ⟨v526, e526, h⟩ := tw_bd h
      refine tw_sld hO hC hb dL_law_526 e526 ?_
      obtain ⟨q527, e527, h⟩ := tw_bd h
      refine tw_cVi hO (mX8_at l G e527) cfX8_at (t := 8) rfl (kX8_at e527) tw_w818 tw_w819 tw_w820 rfl rfl rfl rfl ⟨(Nat.le_of_ble_eq_true rfl), (Nat.le_of_ble_eq_true rfl)⟩ (Nat.le_of_ble_eq_true rfl) ⟨(Nat.le_of_ble_eq_true rfl), (Nat.le_of_ble_eq_true rfl)⟩ dL_law_527 ?_
      refine tw_icmp_eq (tgt := 732) hO dL_law_530 (by decide) (fun cc => ?_) (fun cc => ?_)
      · replace h := tw_ifp cc h
        exact wL_law_b732 hO hC hb hk18 h
      · replace h := tw_ifn cc h
        refine tw_iconst (v := 0) hO dL_law_533 (by decide) ?_
        exact absurd (Option.some.inj h) (by decide)
    replace h := tw_ifn s12 h
    by_cases s13 : (v28 &&& 31) = 13
    · replace h := tw_ifp s13 h
      refine tw_tableIn (off := 503) (tgt := 535) hO dL_law_32 (by rw [s13]; decide) (by rw [s13]; decide) (by rw [s13]; rfl) (by decide) ?_
      refine tw_aload_n 1 hO dL_law_535 rfl rfl ?_
      refine tw_aload_n 0 hO dL_law_536 rfl rfl ?_
      refine tw_iload_n 3 hO dL_law_537 rfl rfl ?_
      refine tw_iconst (v := 1) hO dL_law_538 (by decide) ?_
      refine tw_iadd hO dL_law_539 ?_
      obtain ⟨v540, e540, h⟩ := tw_bd h
      refine tw_sld hO hC hb dL_law_540 e540 ?_
      obtain ⟨v541, e541, h⟩ := tw_bd h
      refine tw_cVi hO (mX7_count l G e541) cfX7_count (t := 7) rfl (kX7_count e541) tw_w521 tw_w522 tw_w523 rfl rfl rfl rfl ⟨(Nat.le_of_ble_eq_true rfl), (Nat.le_of_ble_eq_true rfl)⟩ (Nat.le_of_ble_eq_true rfl) ⟨(Nat.le_of_ble_eq_true rfl), (Nat.le_of_ble_eq_true rfl)⟩ dL_law_541 ?_
      refine tw_aload_n 2 hO dL_law_544 rfl rfl ?_
      refine tw_aload_n 0 hO dL_law_545 rfl rfl ?_
      refine tw_iload_n 3 hO dL_law_546 rfl rfl ?_
      refine tw_iconst (v := 1) hO dL_law_547 (by decide) ?_
      refine tw_iadd hO dL_law_548 ?_
      obtain ⟨v549, e549, h⟩ := tw_bd h
      refine tw_sld hO hC hb dL_law_549 e549 ?_
      obtain ⟨q550, e550, h⟩ := tw_bd h
      refine tw_cVi hO (mX8_count l G e550) cfX8_count (t := 8) rfl (kX8_count e550) tw_w822 tw_w823 tw_w824 rfl rfl rfl rfl ⟨(Nat.le_of_ble_eq_true rfl), (Nat.le_of_ble_eq_true rfl)⟩ (Nat.le_of_ble_eq_true rfl) ⟨(Nat.le_of_ble_eq_true rfl), (Nat.le_of_ble_eq_true rfl)⟩ dL_law_550 ?_
      refine tw_icmp_eq (tgt := 732) hO dL_law_553 (by decide) (fun cc => ?_) (fun cc => ?_)
      · replace h := tw_ifp cc h
        exact wL_law_b732 hO hC hb hk18 h
      · replace h := tw_ifn cc h
        refine tw_iconst (v := 0) hO dL_law_556 (by decide) ?_
        exact absurd (Option.some.inj h) (by decide)
    replace h := tw_ifn s13 h
    by_cases s14 : (v28 &&& 31) = 14
    · replace h := tw_ifp s14 h
      refine tw_tableIn (off := 526) (tgt := 558) hO dL_law_32 (by rw [s14]; decide) (by rw [s14]; decide) (by rw [s14]; rfl) (by decide) ?_
      refine tw_aload_n 1 hO dL_law_558 rfl rfl ?_
      refine tw_aload_n 0 hO dL_law_559 rfl rfl ?_
      refine tw_iload_n 3 hO dL_law_560 rfl rfl ?_
      refine tw_iconst (v := 1) hO dL_law_561 (by decide) ?_
      refine tw_iadd hO dL_law_562 ?_
      obtain ⟨v563, e563, h⟩ := tw_bd h
      refine tw_sld hO hC hb dL_law_563 e563 ?_
      obtain ⟨q564, e564, h⟩ := tw_bd h
      refine tw_cVi hO (mX7_alone l G e564) cfX7_alone (t := 7) rfl (kX7_alone e564) tw_w530 tw_w531 tw_w532 rfl rfl rfl rfl ⟨(Nat.le_of_ble_eq_true rfl), (Nat.le_of_ble_eq_true rfl)⟩ (Nat.le_of_ble_eq_true rfl) ⟨(Nat.le_of_ble_eq_true rfl), (Nat.le_of_ble_eq_true rfl)⟩ dL_law_564 ?_
      refine tw_aload_n 2 hO dL_law_567 rfl rfl ?_
      refine tw_aload_n 0 hO dL_law_568 rfl rfl ?_
      refine tw_iload_n 3 hO dL_law_569 rfl rfl ?_
      refine tw_iconst (v := 1) hO dL_law_570 (by decide) ?_
      refine tw_iadd hO dL_law_571 ?_
      obtain ⟨v572, e572, h⟩ := tw_bd h
      refine tw_sld hO hC hb dL_law_572 e572 ?_
      obtain ⟨q573, e573, h⟩ := tw_bd h
      refine tw_cVi hO (mX8_alone l G e573) cfX8_alone (t := 8) rfl (kX8_alone e573) tw_w826 tw_w827 tw_w828 rfl rfl rfl rfl ⟨(Nat.le_of_ble_eq_true rfl), (Nat.le_of_ble_eq_true rfl)⟩ (Nat.le_of_ble_eq_true rfl) ⟨(Nat.le_of_ble_eq_true rfl), (Nat.le_of_ble_eq_true rfl)⟩ dL_law_573 ?_
      refine tw_icmp_eq (tgt := 732) hO dL_law_576 (by decide) (fun cc => ?_) (fun cc => ?_)
      · replace h := tw_ifp cc h
        exact wL_law_b732 hO hC hb hk18 h
      · replace h := tw_ifn cc h
        refine tw_iconst (v := 0) hO dL_law_579 (by decide) ?_
        exact absurd (Option.some.inj h) (by decide)
    replace h := tw_ifn s14 h
    by_cases s15 : (v28 &&& 31) = 15
    · replace h := tw_ifp s15 h
      refine tw_tableIn (off := 549) (tgt := 581) hO dL_law_32 (by rw [s15]; decide) (by rw [s15]; decide) (by rw [s15]; rfl) (by decide) ?_
      refine tw_aload_n 1 hO dL_law_581 rfl rfl ?_
      refine tw_aload_n 0 hO dL_law_582 rfl rfl ?_
      refine tw_iload_n 3 hO dL_law_583 rfl rfl ?_
      refine tw_iconst (v := 1) hO dL_law_584 (by decide) ?_
      refine tw_iadd hO dL_law_585 ?_
      obtain ⟨v586, e586, h⟩ := tw_bd h
      refine tw_sld hO hC hb dL_law_586 e586 ?_
      obtain ⟨q587, e587, h⟩ := tw_bd h
      refine tw_cVi hO (mX7_lengthWith l G e587) cfX7_lengthWith (t := 7) rfl (kX7_lengthWith e587) tw_w535 tw_w536 tw_w537 rfl rfl rfl rfl ⟨(Nat.le_of_ble_eq_true rfl), (Nat.le_of_ble_eq_true rfl)⟩ (Nat.le_of_ble_eq_true rfl) ⟨(Nat.le_of_ble_eq_true rfl), (Nat.le_of_ble_eq_true rfl)⟩ dL_law_587 ?_
      refine tw_aload_n 2 hO dL_law_590 rfl rfl ?_
      refine tw_aload_n 0 hO dL_law_591 rfl rfl ?_
      refine tw_iload_n 3 hO dL_law_592 rfl rfl ?_
      refine tw_iconst (v := 1) hO dL_law_593 (by decide) ?_
      refine tw_iadd hO dL_law_594 ?_
      obtain ⟨v595, e595, h⟩ := tw_bd h
      refine tw_sld hO hC hb dL_law_595 e595 ?_
      obtain ⟨q596, e596, h⟩ := tw_bd h
      refine tw_cVi hO (mX8_lengthWith l G e596) cfX8_lengthWith (t := 8) rfl (kX8_lengthWith e596) tw_w830 tw_w831 tw_w832 rfl rfl rfl rfl ⟨(Nat.le_of_ble_eq_true rfl), (Nat.le_of_ble_eq_true rfl)⟩ (Nat.le_of_ble_eq_true rfl) ⟨(Nat.le_of_ble_eq_true rfl), (Nat.le_of_ble_eq_true rfl)⟩ dL_law_596 ?_
      refine tw_icmp_eq (tgt := 732) hO dL_law_599 (by decide) (fun cc => ?_) (fun cc => ?_)
      · replace h := tw_ifp cc h
        exact wL_law_b732 hO hC hb hk18 h
      · replace h := tw_ifn cc h
        refine tw_iconst (v := 0) hO dL_law_602 (by decide) ?_
        exact absurd (Option.some.inj h) (by decide)
    replace h := tw_ifn s15 h
    by_cases s16 : (v28 &&& 31) = 16
    · replace h := tw_ifp s16 h
      refine tw_tableIn (off := 572) (tgt := 604) hO dL_law_32 (by rw [s16]; decide) (by rw [s16]; decide) (by rw [s16]; rfl) (by decide) ?_
      refine tw_aload_n 1 hO dL_law_604 rfl rfl ?_
      obtain ⟨q605, e605, h⟩ := tw_bd h
      refine tw_cVi hO (mX7_bestTurns l G e605) cfX7_bestTurns (t := 7) rfl (kX7_bestTurns e605) tw_w543 tw_w544 tw_w545 rfl rfl rfl rfl ⟨(Nat.le_of_ble_eq_true rfl), (Nat.le_of_ble_eq_true rfl)⟩ (Nat.le_of_ble_eq_true rfl) ⟨(Nat.le_of_ble_eq_true rfl), (Nat.le_of_ble_eq_true rfl)⟩ dL_law_605 ?_
      refine tw_aload_n 2 hO dL_law_608 rfl rfl ?_
      obtain ⟨q609, e609, h⟩ := tw_bd h
      refine tw_cVi hO (mX8_bestTurns l G e609) cfX8_bestTurns (t := 8) rfl (kX8_bestTurns e609) tw_w834 tw_w835 tw_w836 rfl rfl rfl rfl ⟨(Nat.le_of_ble_eq_true rfl), (Nat.le_of_ble_eq_true rfl)⟩ (Nat.le_of_ble_eq_true rfl) ⟨(Nat.le_of_ble_eq_true rfl), (Nat.le_of_ble_eq_true rfl)⟩ dL_law_609 ?_
      refine tw_icmp_eq (tgt := 732) hO dL_law_612 (by decide) (fun cc => ?_) (fun cc => ?_)
      · replace h := tw_ifp cc h
        exact wL_law_b732 hO hC hb hk18 h
      · replace h := tw_ifn cc h
        refine tw_iconst (v := 0) hO dL_law_615 (by decide) ?_
        exact absurd (Option.some.inj h) (by decide)
    replace h := tw_ifn s16 h
    by_cases s17 : (v28 &&& 31) = 17
    · replace h := tw_ifp s17 h
      refine tw_tableIn (off := 585) (tgt := 617) hO dL_law_32 (by rw [s17]; decide) (by rw [s17]; decide) (by rw [s17]; rfl) (by decide) ?_
      refine tw_aload_n 1 hO dL_law_617 rfl rfl ?_
      refine tw_aload_n 0 hO dL_law_618 rfl rfl ?_
      refine tw_iload_n 3 hO dL_law_619 rfl rfl ?_
      refine tw_iconst (v := 1) hO dL_law_620 (by decide) ?_
      refine tw_iadd hO dL_law_621 ?_
      obtain ⟨v622, e622, h⟩ := tw_bd h
      refine tw_sld hO hC hb dL_law_622 e622 ?_
      obtain ⟨q623, e623, h⟩ := tw_bd h
      refine tw_cVi hO (mX7_lengthWithout l G e623) cfX7_lengthWithout (t := 7) rfl (kX7_lengthWithout e623) tw_w547 tw_w548 tw_w549 rfl rfl rfl rfl ⟨(Nat.le_of_ble_eq_true rfl), (Nat.le_of_ble_eq_true rfl)⟩ (Nat.le_of_ble_eq_true rfl) ⟨(Nat.le_of_ble_eq_true rfl), (Nat.le_of_ble_eq_true rfl)⟩ dL_law_623 ?_
      refine tw_aload_n 2 hO dL_law_626 rfl rfl ?_
      refine tw_aload_n 0 hO dL_law_627 rfl rfl ?_
      refine tw_iload_n 3 hO dL_law_628 rfl rfl ?_
      refine tw_iconst (v := 1) hO dL_law_629 (by decide) ?_
      refine tw_iadd hO dL_law_630 ?_
      obtain ⟨v631, e631, h⟩ := tw_bd h
      refine tw_sld hO hC hb dL_law_631 e631 ?_
      obtain ⟨q632, e632, h⟩ := tw_bd h
      refine tw_cVi hO (mX8_lengthWithout l G e632) cfX8_lengthWithout (t := 8) rfl (kX8_lengthWithout e632) tw_w838 tw_w839 tw_w840 rfl rfl rfl rfl ⟨(Nat.le_of_ble_eq_true rfl), (Nat.le_of_ble_eq_true rfl)⟩ (Nat.le_of_ble_eq_true rfl) ⟨(Nat.le_of_ble_eq_true rfl), (Nat.le_of_ble_eq_true rfl)⟩ dL_law_632 ?_
      refine tw_icmp_eq (tgt := 732) hO dL_law_635 (by decide) (fun cc => ?_) (fun cc => ?_)
      · replace h := tw_ifp cc h
        exact wL_law_b732 hO hC hb hk18 h
      · replace h := tw_ifn cc h
        refine tw_iconst (v := 0) hO dL_law_638 (by decide) ?_
        exact absurd (Option.some.inj h) (by decide)
    replace h := tw_ifn s17 h
    by_cases s18 : (v28 &&& 31) = 18
    · replace h := tw_ifp s18 h
      refine tw_tableIn (off := 608) (tgt := 640) hO dL_law_32 (by rw [s18]; decide) (by rw [s18]; decide) (by rw [s18]; rfl) (by decide) ?_
      refine tw_aload_n 1 hO dL_law_640 rfl rfl ?_
      refine tw_aload_n 0 hO dL_law_641 rfl rfl ?_
      refine tw_iload_n 3 hO dL_law_642 rfl rfl ?_
      refine tw_iconst (v := 1) hO dL_law_643 (by decide) ?_
      refine tw_iadd hO dL_law_644 ?_
      obtain ⟨v645, e645, h⟩ := tw_bd h
      refine tw_sld hO hC hb dL_law_645 e645 ?_
      refine tw_aload_n 0 hO dL_law_646 rfl rfl ?_
      refine tw_iload_n 3 hO dL_law_647 rfl rfl ?_
      refine tw_iconst (v := 2) hO dL_law_648 (by decide) ?_
      refine tw_iadd hO dL_law_649 ?_
      obtain ⟨v650, e650, h⟩ := tw_bd h
      refine tw_sld hO hC hb dL_law_650 e650 ?_
      obtain ⟨q651, e651, h⟩ := tw_bd h
      refine tw_cVi hO (mX7_bestExchange l G e651) cfX7_bestExchange (t := 7) rfl (kX7_bestExchange e651) tw_w551 tw_w552 tw_w553 rfl rfl rfl rfl ⟨(Nat.le_of_ble_eq_true rfl), (Nat.le_of_ble_eq_true rfl)⟩ (Nat.le_of_ble_eq_true rfl) ⟨(Nat.le_of_ble_eq_true rfl), (Nat.le_of_ble_eq_true rfl)⟩ dL_law_651 ?_
      refine tw_aload_n 2 hO dL_law_654 rfl rfl ?_
      refine tw_aload_n 0 hO dL_law_655 rfl rfl ?_
      refine tw_iload_n 3 hO dL_law_656 rfl rfl ?_
      refine tw_iconst (v := 1) hO dL_law_657 (by decide) ?_
      refine tw_iadd hO dL_law_658 ?_
      obtain ⟨v659, e659, h⟩ := tw_bd h
      refine tw_sld hO hC hb dL_law_659 e659 ?_
      refine tw_aload_n 0 hO dL_law_660 rfl rfl ?_
      refine tw_iload_n 3 hO dL_law_661 rfl rfl ?_
      refine tw_iconst (v := 2) hO dL_law_662 (by decide) ?_
      refine tw_iadd hO dL_law_663 ?_
      obtain ⟨v664, e664, h⟩ := tw_bd h
      refine tw_sld hO hC hb dL_law_664 e664 ?_
      obtain ⟨q665, e665, h⟩ := tw_bd h
      refine tw_cVi hO (mX8_bestExchange l G e665) cfX8_bestExchange (t := 8) rfl (kX8_bestExchange e665) tw_w842 tw_w843 tw_w844 rfl rfl rfl rfl ⟨(Nat.le_of_ble_eq_true rfl), (Nat.le_of_ble_eq_true rfl)⟩ (Nat.le_of_ble_eq_true rfl) ⟨(Nat.le_of_ble_eq_true rfl), (Nat.le_of_ble_eq_true rfl)⟩ dL_law_665 ?_
      refine tw_icmp_eq (tgt := 732) hO dL_law_668 (by decide) (fun cc => ?_) (fun cc => ?_)
      · replace h := tw_ifp cc h
        exact wL_law_b732 hO hC hb hk18 h
      · replace h := tw_ifn cc h
        refine tw_iconst (v := 0) hO dL_law_671 (by decide) ?_
        exact absurd (Option.some.inj h) (by decide)
    replace h := tw_ifn s18 h
    by_cases s19 : (v28 &&& 31) = 19
    · replace h := tw_ifp s19 h
      refine tw_tableIn (off := 641) (tgt := 673) hO dL_law_32 (by rw [s19]; decide) (by rw [s19]; decide) (by rw [s19]; rfl) (by decide) ?_
      refine tw_aload_n 1 hO dL_law_673 rfl rfl ?_
      obtain ⟨q674, e674, h⟩ := tw_bd h
      refine tw_cVi hO (mX7_undo l G e674) cfX7_undo (t := 7) rfl (kX7_undo e674) tw_w573 tw_w574 tw_w575 rfl rfl rfl rfl ⟨(Nat.le_of_ble_eq_true rfl), (Nat.le_of_ble_eq_true rfl)⟩ (Nat.le_of_ble_eq_true rfl) ⟨(Nat.le_of_ble_eq_true rfl), (Nat.le_of_ble_eq_true rfl)⟩ dL_law_674 ?_
      refine tw_aload_n 2 hO dL_law_677 rfl rfl ?_
      obtain ⟨q678, e678, h⟩ := tw_bd h
      refine tw_cVi hO (mX8_undo l G e678) cfX8_undo (t := 8) rfl (kX8_undo e678) tw_w858 tw_w859 tw_w860 rfl rfl rfl rfl ⟨(Nat.le_of_ble_eq_true rfl), (Nat.le_of_ble_eq_true rfl)⟩ (Nat.le_of_ble_eq_true rfl) ⟨(Nat.le_of_ble_eq_true rfl), (Nat.le_of_ble_eq_true rfl)⟩ dL_law_678 ?_
      refine tw_icmp_eq (tgt := 732) hO dL_law_681 (by decide) (fun cc => ?_) (fun cc => ?_)
      · replace h := tw_ifp cc h
        exact wL_law_b732 hO hC hb hk18 h
      · replace h := tw_ifn cc h
        refine tw_iconst (v := 0) hO dL_law_684 (by decide) ?_
        exact absurd (Option.some.inj h) (by decide)
    replace h := tw_ifn s19 h
    by_cases s20 : (v28 &&& 31) = 20
    · replace h := tw_ifp s20 h
      refine tw_tableIn (off := 654) (tgt := 686) hO dL_law_32 (by rw [s20]; decide) (by rw [s20]; decide) (by rw [s20]; rfl) (by decide) ?_
      refine tw_aload_n 1 hO dL_law_686 rfl rfl ?_
      refine tw_aload_n 0 hO dL_law_687 rfl rfl ?_
      refine tw_iload_n 3 hO dL_law_688 rfl rfl ?_
      refine tw_iconst (v := 1) hO dL_law_689 (by decide) ?_
      refine tw_iadd hO dL_law_690 ?_
      obtain ⟨v691, e691, h⟩ := tw_bd h
      refine tw_sld hO hC hb dL_law_691 e691 ?_
      obtain ⟨q692, e692, h⟩ := tw_bd h
      refine tw_cVi hO (mX7_save l G e692) cfX7_save (t := 7) rfl (kX7_save e692) tw_w581 tw_w582 tw_w583 rfl rfl rfl rfl ⟨(Nat.le_of_ble_eq_true rfl), (Nat.le_of_ble_eq_true rfl)⟩ (Nat.le_of_ble_eq_true rfl) ⟨(Nat.le_of_ble_eq_true rfl), (Nat.le_of_ble_eq_true rfl)⟩ dL_law_692 ?_
      refine tw_aload_n 2 hO dL_law_695 rfl rfl ?_
      refine tw_aload_n 0 hO dL_law_696 rfl rfl ?_
      refine tw_iload_n 3 hO dL_law_697 rfl rfl ?_
      refine tw_iconst (v := 1) hO dL_law_698 (by decide) ?_
      refine tw_iadd hO dL_law_699 ?_
      obtain ⟨v700, e700, h⟩ := tw_bd h
      refine tw_sld hO hC hb dL_law_700 e700 ?_
      obtain ⟨q701, e701, h⟩ := tw_bd h
      refine tw_cVi hO (mX8_save l G e701) cfX8_save (t := 8) rfl (kX8_save e701) tw_w862 tw_w863 tw_w864 rfl rfl rfl rfl ⟨(Nat.le_of_ble_eq_true rfl), (Nat.le_of_ble_eq_true rfl)⟩ (Nat.le_of_ble_eq_true rfl) ⟨(Nat.le_of_ble_eq_true rfl), (Nat.le_of_ble_eq_true rfl)⟩ dL_law_701 ?_
      refine tw_icmp_eq (tgt := 732) hO dL_law_704 (by decide) (fun cc => ?_) (fun cc => ?_)
      · replace h := tw_ifp cc h
        exact wL_law_b732 hO hC hb hk18 h
      · replace h := tw_ifn cc h
        refine tw_iconst (v := 0) hO dL_law_707 (by decide) ?_
        exact absurd (Option.some.inj h) (by decide)
    replace h := tw_ifn s20 h
    by_cases s21 : (v28 &&& 31) = 21
    · replace h := tw_ifp s21 h
      refine tw_tableIn (off := 677) (tgt := 709) hO dL_law_32 (by rw [s21]; decide) (by rw [s21]; decide) (by rw [s21]; rfl) (by decide) ?_
      refine tw_aload_n 1 hO dL_law_709 rfl rfl ?_
      refine tw_aload_n 0 hO dL_law_710 rfl rfl ?_
      refine tw_iload_n 3 hO dL_law_711 rfl rfl ?_
      refine tw_iconst (v := 1) hO dL_law_712 (by decide) ?_
      refine tw_iadd hO dL_law_713 ?_
      obtain ⟨v714, e714, h⟩ := tw_bd h
      refine tw_sld hO hC hb dL_law_714 e714 ?_
      obtain ⟨q715, e715, h⟩ := tw_bd h
      refine tw_cVi hO (mX7_restore l G e715) cfX7_restore (t := 7) rfl (kX7_restore e715) tw_w585 tw_w586 tw_w587 rfl rfl rfl rfl ⟨(Nat.le_of_ble_eq_true rfl), (Nat.le_of_ble_eq_true rfl)⟩ (Nat.le_of_ble_eq_true rfl) ⟨(Nat.le_of_ble_eq_true rfl), (Nat.le_of_ble_eq_true rfl)⟩ dL_law_715 ?_
      refine tw_aload_n 2 hO dL_law_718 rfl rfl ?_
      refine tw_aload_n 0 hO dL_law_719 rfl rfl ?_
      refine tw_iload_n 3 hO dL_law_720 rfl rfl ?_
      refine tw_iconst (v := 1) hO dL_law_721 (by decide) ?_
      refine tw_iadd hO dL_law_722 ?_
      obtain ⟨v723, e723, h⟩ := tw_bd h
      refine tw_sld hO hC hb dL_law_723 e723 ?_
      obtain ⟨q724, e724, h⟩ := tw_bd h
      refine tw_cVi hO (mX8_restore l G e724) cfX8_restore (t := 8) rfl (kX8_restore e724) tw_w866 tw_w867 tw_w868 rfl rfl rfl rfl ⟨(Nat.le_of_ble_eq_true rfl), (Nat.le_of_ble_eq_true rfl)⟩ (Nat.le_of_ble_eq_true rfl) ⟨(Nat.le_of_ble_eq_true rfl), (Nat.le_of_ble_eq_true rfl)⟩ dL_law_724 ?_
      refine tw_icmp_eq (tgt := 732) hO dL_law_727 (by decide) (fun cc => ?_) (fun cc => ?_)
      · replace h := tw_ifp cc h
        exact wL_law_b732 hO hC hb hk18 h
      · replace h := tw_ifn cc h
        refine tw_iconst (v := 0) hO dL_law_730 (by decide) ?_
        exact absurd (Option.some.inj h) (by decide)
    replace h := tw_ifn s21 h
    refine tw_tableOut (tgt := 732) hO dL_law_32 (by have n0 := lv_neT (a := 0) s0 rfl; have n1 := lv_neT (a := 1) s1 rfl; have n2 := lv_neT (a := 2) s2 rfl; have n3 := lv_neT (a := 3) s3 rfl; have n4 := lv_neT (a := 4) s4 rfl; have n5 := lv_neT (a := 5) s5 rfl; have n6 := lv_neT (a := 6) s6 rfl; have n7 := lv_neT (a := 7) s7 rfl; have n8 := lv_neT (a := 8) s8 rfl; have n9 := lv_neT (a := 9) s9 rfl; have n10 := lv_neT (a := 10) s10 rfl; have n11 := lv_neT (a := 11) s11 rfl; have n12 := lv_neT (a := 12) s12 rfl; have n13 := lv_neT (a := 13) s13 rfl; have n14 := lv_neT (a := 14) s14 rfl; have n15 := lv_neT (a := 15) s15 rfl; have n16 := lv_neT (a := 16) s16 rfl; have n17 := lv_neT (a := 17) s17 rfl; have n18 := lv_neT (a := 18) s18 rfl; have n19 := lv_neT (a := 19) s19 rfl; have n20 := lv_neT (a := 20) s20 rfl; have n21 := lv_neT (a := 21) s21 rfl; omega) (by decide) ?_
    exact wL_law_b732 hO hC hb hk18 h
set_option maxRecDepth 100000 in
set_option maxHeartbeats 4000000 in
theorem wL_law_l18 (hO : tw_O p s m #[Value.ref b] meth c code RL 4 ret G) (hC : lw_At p s m meth c b L xs) (hb : G.2.2.2.2 = s.heap.size) : ∀ (n : Nat) (σ : tw_St) (a1 : Nat) (a2 : Nat) (x3 : Int32), fL_law_l18 xs L n σ a1 a2 x3 = some 1 → tw_X p l e room_1 s m #[Value.ref b] below meth c 4 G σ 180 6144 (lw_Z below #[Value.ref b] s) 18 [(0, .ref b), (1, .ref a1), (2, .ref a2), (3, .int x3)] [] := by
  intro n
  induction n with
  | zero => intro _ _ _ _ h; cases (show (none : Option (Int32)) = some 1 from h)
  | succ n ih => intro _ _ _ _ h; exact wL_law_h18 hO hC hb ih h
set_option maxRecDepth 100000 in
set_option maxHeartbeats 4000000 in
theorem wL_law (hO : tw_O p s m #[Value.ref b] meth c code RL 4 ret G) (hC : lw_At p s m meth c b L xs) (hb : G.2.2.2.2 = s.heap.size) {σ : tw_St} (h : fL_law xs L σ = some 1) : tw_X p l e room_1 s m #[Value.ref b] below meth c 4 G σ 0 0 (lw_Z below #[Value.ref b] s) 0 [(0, .ref b)] [] := by
  unfold fL_law at h
  refine tw_newO hO dL_law_0 (t := 7) rfl tw_w59 tw_w60 tw_w48 (Nat.le_of_ble_eq_true rfl) (Nat.le_of_ble_eq_true rfl) ?_
  refine tw_dup hO dL_law_3 rfl ?_
  obtain ⟨σ4, e4, h⟩ := tw_bd h
  refine tw_callI hO (mX7_init l G e4) cfX7_init rfl tw_w61 tw_w62 rfl rfl rfl rfl ⟨(Nat.le_of_ble_eq_true rfl), (Nat.le_of_ble_eq_true rfl)⟩ (Nat.le_of_ble_eq_true rfl) ⟨(Nat.le_of_ble_eq_true rfl), (Nat.le_of_ble_eq_true rfl)⟩ dL_law_4 ?_
  refine tw_astore_n (lv' := [(1, .ref σ.1), (0, .ref b)]) hO dL_law_7 rfl (by decide) rfl ?_
  refine tw_newO hO dL_law_8 (t := 8) rfl tw_w589 tw_w590 tw_w56 (Nat.le_of_ble_eq_true rfl) (Nat.le_of_ble_eq_true rfl) ?_
  refine tw_dup hO dL_law_11 rfl ?_
  obtain ⟨σ12, e12, h⟩ := tw_bd h
  refine tw_callI hO (mX8_init l G e12) cfX8_init rfl tw_w591 tw_w592 rfl rfl rfl rfl ⟨(Nat.le_of_ble_eq_true rfl), (Nat.le_of_ble_eq_true rfl)⟩ (Nat.le_of_ble_eq_true rfl) ⟨(Nat.le_of_ble_eq_true rfl), (Nat.le_of_ble_eq_true rfl)⟩ dL_law_12 ?_
  refine tw_astore_n (lv' := [(2, .ref σ4.1), (1, .ref σ.1), (0, .ref b)]) hO dL_law_15 rfl (by decide) rfl ?_
  refine tw_iconst (v := 0) hO dL_law_16 (by decide) ?_
  refine tw_istore_n (lv' := [(3, .int 0), (2, .ref σ4.1), (1, .ref σ.1), (0, .ref b)]) hO dL_law_17 rfl (by decide) rfl ?_
  refine tw_sub [3, 2, 1, 0] rfl ?_
  exact wL_law_l18 hO hC hb _ _ _ _ _ h
end TW_law
/-- what the start gives: classes, rows of numbers, statics -/
theorem tw_start {p : Program} {s : State} {m : MethodId} {meth : Method} {c : Code} {b L : Nat} {xs : Nat → Int32} (C0 : lw_At p s m meth c b L xs) : ∃ G : tw_G, G.2.2.2.2 = s.heap.size ∧ tw_O p s m #[Value.ref b] meth c code RL 4 ret G := by
  obtain ⟨hx, hb, hr, hml, hown, hts, hX, hbl, hlocks, hgv⟩ := C0
  have htw : ∀ w ∈ tw_W, w.before #[Value.ref b] s = true := fun w hw => hts w (List.mem_filter.mp hw).1
  have hcl : ∀ t : Nat, ∃ cd : ClassId × (Nat → Nat), ∀ r, vwCl[t]? = some r → u_Kn s r.1 r.2.1 r.2.2 cd.1 cd.2 := by
    intro t
    cases ht : vwCl[t]? with
    | none => exact ⟨(0, fun _ => 0), fun r hr => by cases hr⟩
    | some r =>
      have hm := List.mem_of_getElem? ht
      have hi : (Cond.instantiable r.1 r.2.2).before #[Value.ref b] s = true := by
        refine hts _ ?_
        revert hm
        simp only [vwCl, List.mem_cons, List.not_mem_nil, or_false]
        intro hm
        rcases hm with rfl | rfl | rfl | rfl | rfl | rfl | rfl | rfl | rfl <;> decide +kernel
      obtain ⟨cC, iS, hK⟩ := u_known (C := r.1) (T := r.2.1) (N := r.2.2) htw (tw_lay ht) hi
      exact ⟨(cC, iS), fun r' hr' => by cases hr'; exact hK⟩
  have hprim : ∀ ty : FieldType, (ty = .int ∨ ty = .char ∨ ty = .boolean) → ∃ cA : ClassId, ArrOfT s cA ty ∧ va_RA s cA ty := by
    intro ty hty
    have hw : (Cond.arrayClass ty).before #[Value.ref b] s = true := by
      refine hts _ ?_
      rcases hty with rfl | rfl | rfl <;> decide +kernel
    obtain ⟨cA, kA, comp, h1, h2, h3⟩ := Cond.arrayClass_spec hw
    refine ⟨cA, fun n z => ⟨(fun k h => by cases h), kA, h2, comp, h3⟩, ?_⟩
    rcases hty with rfl | rfl | rfl <;> exact h1
  have hobj : ∀ C : String, (C = RX6 ∨ C = RX3 ∨ C = RX2) → va_AO C s ∧ ∃ cA : ClassId, ArrOfT s cA (.object C) ∧ va_RA s cA (.object C) := by
    intro C hC
    have hw : (Cond.arrayOver (.object C)).before #[Value.ref b] s = true := by
      refine hts _ ?_
      rcases hC with rfl | rfl | rfl <;> decide +kernel
    obtain ⟨comp, c', k, h1, h2, h3, h4, h5⟩ := Cond.arrayOver_spec hw
    exact ⟨va_AO.of hw, c', fun n z => ⟨(fun k h => by cases h), k, h3, comp, h4⟩, k, comp, h3, h4, h1, h5⟩
  have hAA : (Cond.arrayOver (.array .int)).before #[Value.ref b] s = true := hts _ (by decide +kernel)
  obtain ⟨compI, cII, kII, g1, g2, g3, g4, g5⟩ := arrayOverA_spec hAA
  obtain ⟨cI, hI1, hI2⟩ := hprim .int (Or.inl rfl)
  obtain ⟨cC, hC1, hC2⟩ := hprim .char (Or.inr (Or.inl rfl))
  obtain ⟨cZ, hZ1, hZ2⟩ := hprim .boolean (Or.inr (Or.inr rfl))
  obtain ⟨o6, c6, h61, h62⟩ := hobj RX6 (Or.inl rfl)
  obtain ⟨o3, c3, h31, h32⟩ := hobj RX3 (Or.inr (Or.inl rfl))
  obtain ⟨o2, c2, h21, h22⟩ := hobj RX2 (Or.inr (Or.inr rfl))
  have ecomp : compI = cI := Option.some.inj (g1.symm.trans hI2)
  subst ecomp
  have hst := flat_of_before _ hgv
  have hA : ∀ a : Nat, a < s.heap.size → ¬ (fun q : Nat => s.heap.size ≤ q) a := fun a ha => Nat.not_le.mpr ha
  obtain ⟨tL, eL, hTL⟩ : ∃ t : Nat, (Term.static "TwinThreads" "LOWEST" "[I").eval #[Value.ref b] s none [] s = some (.ref t) ∧ va_T .int t 3 (fun j => .int (tw_low j)) (fun q : Nat => s.heap.size ≤ q) s s.heap := by
    refine va_Tof (by decide) (hst _ (by decide +kernel)) (va_eqt (hst (Cond.eq (.length (.static "TwinThreads" "LOWEST" "[I")) (.int 3)) (by decide +kernel))) (fun j hj => ?_) hA
    rcases (show j = 0 ∨ j = 1 ∨ j = 2 by omega) with rfl | rfl | rfl
    · exact va_eqt (hst (Cond.eq (.elem (.static "TwinThreads" "LOWEST" "[I") (.int 0)) (.int 0)) (by decide +kernel))
    · exact va_eqt (hst (Cond.eq (.elem (.static "TwinThreads" "LOWEST" "[I") (.int 1)) (.int 1)) (by decide +kernel))
    · exact va_eqt (hst (Cond.eq (.elem (.static "TwinThreads" "LOWEST" "[I") (.int 2)) (.int 1)) (by decide +kernel))
  obtain ⟨tH, eH, hTH⟩ : ∃ t : Nat, (Term.static "TwinThreads" "HIGHEST" "[I").eval #[Value.ref b] s none [] s = some (.ref t) ∧ va_T .int t 3 (fun j => .int (tw_hig j)) (fun q : Nat => s.heap.size ≤ q) s s.heap := by
    refine va_Tof (by decide) (hst _ (by decide +kernel)) (va_eqt (hst (Cond.eq (.length (.static "TwinThreads" "HIGHEST" "[I")) (.int 3)) (by decide +kernel))) (fun j hj => ?_) hA
    rcases (show j = 0 ∨ j = 1 ∨ j = 2 by omega) with rfl | rfl | rfl
    · exact va_eqt (hst (Cond.eq (.elem (.static "TwinThreads" "HIGHEST" "[I") (.int 0)) (.int 2)) (by decide +kernel))
    · exact va_eqt (hst (Cond.eq (.elem (.static "TwinThreads" "HIGHEST" "[I") (.int 1)) (.int 9)) (by decide +kernel))
    · exact va_eqt (hst (Cond.eq (.elem (.static "TwinThreads" "HIGHEST" "[I") (.int 2)) (.int 9)) (by decide +kernel))
  have hini : (Cond.initialized "TwinThreads").before #[Value.ref b] s = true := hts _ (by decide +kernel)
  have zL := va_Zref (hts (Cond.laysStatic "TwinThreads" "LOWEST" "[I") (by decide +kernel)) hini eL hA
  have zH := va_Zref (hts (Cond.laysStatic "TwinThreads" "HIGHEST" "[I") (by decide +kernel)) hini eH hA
  refine ⟨((fun t => (Classical.choose (hcl t)).1, fun t => (Classical.choose (hcl t)).2), (fun t => match t with
    | 20 => compI
    | 21 => cC
    | 22 => cZ
    | 23 => cII
    | 24 => c6
    | 25 => c3
    | _ => c2), tL, tH, s.heap.size), rfl, hx, hb, hml, hown, htw, hlocks, hr, fun t r hr => Classical.choose_spec (hcl t) r hr, fun t a1 a2 => ?_, ⟨?_, ?_, ?_, ?_, ?_, ?_, o3, o2, o6, va_AOA.of hAA⟩, zL, zH, hTL, hTH, kII, g3, g4⟩
  · rcases (show t = 20 ∨ t = 21 ∨ t = 22 ∨ t = 23 ∨ t = 24 ∨ t = 25 ∨ t = 26 by omega) with rfl | rfl | rfl | rfl | rfl | rfl | rfl
    · exact ⟨hI1, hI2⟩
    · exact ⟨hC1, hC2⟩
    · exact ⟨hZ1, hZ2⟩
    · exact ⟨fun n z => ⟨(fun k h => by cases h), kII, g3, _, g4⟩, g5⟩
    · exact ⟨h61, h62⟩
    · exact ⟨h31, h32⟩
    · exact ⟨h21, h22⟩
  · exact va_Nw.of rfl (hts _ (by decide +kernel))
  · exact va_Nw.of rfl (hts _ (by decide +kernel))
  · exact va_Nw.of rfl (hts _ (by decide +kernel))
  · exact va_Nw.of rfl (hts _ (by decide +kernel))
  · exact va_Nw.of rfl (hts _ (by decide +kernel))
  · exact va_Nw.of rfl (hts _ (by decide +kernel))
theorem whole_start {p : Program} {e : Env} {s : State} {m : MethodId} {below : List Frame} {meth : Method} {c : Code} (l : Launch) (hflags : l.flags = flags0) {b L : Nat} {xs : Nat → Int32} (hL : L ≤ 2048) (C0 : lw_At p s m meth c b L xs) : W p l e room_1 s m #[Value.ref b] below meth c s.heap [] 0 0 (lw_Z below #[Value.ref b] s) (entryFrame m ([Value.ref b] : List Value).toArray 4) := by
  obtain ⟨G, hG, hO⟩ := tw_start C0
  have hl := lv_entry ([.ref b]) (n := 4) (Nat.le_of_ble_eq_true rfl)
  rw [lg_entry_eq]
  refine wL_law hO C0 hG (tw_pure s.heap.size L xs hL) s.heap [] _ ⟨rfl, by rw [hG]; exact Nat.le_refl _, fun a t n h => by cases h⟩ va_S.rf hl
