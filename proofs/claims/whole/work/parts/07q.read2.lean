section TPQ
variable {n : Nat} {sh : tw_Sh} {P : Nat → Nat → Option Nat} {I J : Nat → Nat → Int32} {a d pd i c z L r k : Nat} {T : Nat → Nat}
theorem pRO.none' : pRO d J (tw_up J d 3 (nI i)) (i, none) := ⟨tw_up_at, fun k hk => tw_up_k hk, fun c h1 _ _ => tw_up_a h1, fun _ => ⟨tw_up_a (by omega), tw_up_a (by omega)⟩, fun o ho => absurd ho (by simp)⟩
theorem p_addRO (hr : pRd sh P d pd) {x1 x2 x3 x4 x5 : Int32} (hz : J (d + 1) 0 = nI z) (h12 : z ≤ 12) : ∃ I', fX3_add (n, sh, P, tw_up J d 3 (nI i)) (d + 1) x1 x2 x3 x4 x5 = some (n, sh, P, I') ∧ pRO d J I' (i, some (tp_o5 x1 x2 x3 x4 x5)) := by
  obtain ⟨I', e1, e2, e3, e4, e5⟩ := p_add (n := n) (I := tw_up J d 3 (nI i)) (x1 := x1) (x2 := x2) (x3 := x3) (x4 := x4) (x5 := x5) hr.2.2.2.1 (by rw [tw_up_a (by omega)]; exact hz) h12
  refine ⟨I', e1, ?_, fun k hk => ?_, fun c h1 h2 h3 => ?_, fun h => absurd h (by simp), fun o ho z' hz' h12' => ?_⟩
  · rw [e2 d (by omega) (by omega), tw_up_at]
  · rw [e2 d (by omega) (by omega), tw_up_k hk]
  · rw [e2 c h2 h3, tw_up_a h1]
  · have : z' = z := (nI_eq (by omega) (by omega)).mp (hz'.symm.trans hz)
    subst this
    refine ⟨e3, fun h c hc => ?_, fun k hk => ?_⟩
    · have : o = tp_o5 x1 x2 x3 x4 x5 := (Option.some.inj ho).symm
      rw [this]; exact e4 h c hc
    · have := e5 k hk
      rw [tw_up_a (by omega)] at this
      exact this
/-- what a method that reads answers with -/
def pRA (n : Nat) (sh : tw_Sh) (P : Nat → Nat → Option Nat) (d : Nat) (J : Nat → Nat → Int32) (x : Option (Int32 × tw_St)) (r : tp_RO) : Prop := ∃ I', x = some (nI (if r.2 = none then 0 else 1), (n, sh, P, I')) ∧ pRO d J I' r
theorem pRA.fail : pRA n sh P d J (some (nI 0, (n, sh, P, tw_up J d 3 (nI i)))) (i, none) := ⟨_, rfl, pRO.none'⟩
theorem pRA.won {I' : Nat → Nat → Int32} {o : Nat → Int32} (h : pRO d J I' (i, some o)) : pRA n sh P d J (some (nI 1, (n, sh, P, I'))) (i, some o) := ⟨_, by rw [if_neg (by simp)], h⟩
theorem tp_0 : (0 : Int32) = nI 0 := rfl
theorem tp_6e : -nI 6 = -6 := rfl
theorem tp_1 : (1 : Int32) = nI 1 := rfl
theorem tp_m6e {q : Nat} (h : q < 2 ^ 31) : ¬ nI q = -6 := fun z => by
  have := tp_m6 h
  rw [show (-6 : Int32) = -nI 6 from rfl, this] at z
  exact z
theorem p_number (hr : pRd sh P d pd) (hx : pTx T L) (hT : pTI J pd T L) (hi : i < 190) (hz : J (d + 1) 0 = nI z) (h12 : z ≤ 12) : pRA n sh P d J (fX4_readNumber (n, sh, P, tw_up J d 3 (nI i)) d (nI k) (nI r)) (tp_num (tp_ch T L) k r i) := by
  have t0 := p_takeFrom (n := n) hr hx hT (show i < 200 by omega) (show 48 < 1000 by decide) (show 10 < 1000 by decide)
  have t1 := p_takeFrom (n := n) hr hx hT (show i + 1 < 200 by omega) (show 48 < 1000 by decide) (show 10 < 1000 by decide)
  have hl0 := tp_ch_lt hx i
  have hl1 := tp_ch_lt hx (i + 1)
  have hb : ∀ q v, pRA n sh P d J (fX4_readNumber_b50 (n, sh, P, tw_up J d 3 (nI q)) d (nI k) (nI r) (nI v)) (q, some (tp_o5 (nI k) (nI r) (-nI 6) (-nI 6) (nI v))) := by
    intro q v
    obtain ⟨I', e1, e2⟩ := p_addRO (n := n) (i := q) (x1 := nI k) (x2 := nI r) (x3 := -nI 6) (x4 := -nI 6) (x5 := nI v) hr hz h12
    unfold fX4_readNumber_b50
    rw [e_gP hr.1, hr.2.1, Option.bind_some, show (-6 : Int32) = -nI 6 from rfl, e1, Option.bind_some]
    exact pRA.won e2
  unfold fX4_readNumber tp_num
  rw [e_is hr.1, Option.bind_some, show (48 : Int32) = nI 48 from rfl, show (10 : Int32) = nI 10 from rfl, t0, Option.bind_some, tp_0]
  by_cases e0 : tp_dig (tp_ch T L i)
  · rw [if_pos (show 48 ≤ tp_ch T L i ∧ tp_ch T L i < 48 + 10 from e0), if_pos e0]
    dsimp only
    rw [if_neg (tp_m6e (by omega))]
    by_cases e1 : tp_ch T L i = 48
    · rw [if_pos ((nI_leI (by omega) (by decide)).mpr (by omega)), if_neg (fun z => z.1 e1)]
      exact hb _ _
    · have e0' := e0.1
      rw [if_neg (by rw [nI_leI (by omega) (by decide)]; omega), t1, Option.bind_some]
      unfold fX4_readNumber_b49
      by_cases e2 : tp_dig (tp_ch T L (i + 1))
      · rw [if_pos (show 48 ≤ tp_ch T L (i + 1) ∧ tp_ch T L (i + 1) < 48 + 10 from e2)]
        dsimp only
        rw [if_neg (tp_m6e (by omega)), pk_mul, nI_add, if_pos ⟨e1, e2⟩]
        exact hb _ _
      · rw [if_neg (show ¬ (48 ≤ tp_ch T L (i + 1) ∧ tp_ch T L (i + 1) < 48 + 10) from e2)]
        dsimp only
        rw [if_pos tp_6e, if_neg (fun z => e2 z.2)]
        exact hb _ _
  · rw [if_neg (show ¬ (48 ≤ tp_ch T L i ∧ tp_ch T L i < 48 + 10) from e0), if_neg e0]
    dsimp only
    first | rw [if_pos rfl] | rw [if_pos tp_6e]
    exact pRA.fail
theorem p_load (hr : pRd sh P d pd) (hx : pTx T L) (hT : pTI J pd T L) (hi : i < 190) (hz : J (d + 1) 0 = nI z) (h12 : z ≤ 12) : pRA n sh P d J (fX4_readLoad (n, sh, P, tw_up J d 3 (nI i)) d (nI r)) (tp_load (tp_ch T L) r i) := by
  have t0 := p_takeReg (n := n) hr hx hT (show i < 200 by omega)
  have t1 := p_take (n := n) hr hx hT (show i + 1 < 200 by omega) (show 93 < 65536 by decide)
  have hl0 := tp_ch_lt hx i
  unfold fX4_readLoad tp_load
  rw [e_is hr.1, Option.bind_some, t0, Option.bind_some, tp_0, tp_1, show (93 : Int32) = nI 93 from rfl, show (4 : Int32) = nI 4 from rfl]
  by_cases e0 : tp_reg (tp_ch T L i)
  · rw [if_pos e0, if_pos e0]
    dsimp only
    rw [if_neg (tp_m6e (by omega)), t1, Option.bind_some]
    by_cases e1 : tp_ch T L (i + 1) = 93
    · rw [if_pos e1, if_pos e1]
      dsimp only
      obtain ⟨I', g1, g2⟩ := p_addRO (n := n) (i := i + 2) (x1 := nI 4) (x2 := nI r) (x3 := nI (tp_ch T L i - 97)) (x4 := -nI 6) (x5 := -nI 6) hr hz h12
      rw [if_neg (by decide), e_gP hr.1, hr.2.1, Option.bind_some, show (-6 : Int32) = -nI 6 from rfl, g1, Option.bind_some]
      exact pRA.won g2
    · rw [if_neg e1, if_neg e1]
      dsimp only
      first | rw [if_pos rfl] | rw [if_pos tp_6e]
      exact pRA.fail
  · rw [if_neg e0, if_neg e0]
    dsimp only
    first | rw [if_pos rfl] | rw [if_pos tp_6e]
    exact pRA.fail
theorem p_store (hr : pRd sh P d pd) (hx : pTx T L) (hT : pTI J pd T L) (hi : i < 190) (hz : J (d + 1) 0 = nI z) (h12 : z ≤ 12) : pRA n sh P d J (fX4_readStore (n, sh, P, tw_up J d 3 (nI i)) d) (tp_store (tp_ch T L) i) := by
  have t0 := p_takeReg (n := n) hr hx hT (show i < 200 by omega)
  have t1 := p_take (n := n) hr hx hT (show i + 1 < 200 by omega) (show 93 < 65536 by decide)
  have t2 := p_take (n := n) hr hx hT (show i + 2 < 200 by omega) (show 61 < 65536 by decide)
  have t3 := p_takeReg (n := n) hr hx hT (show i + 3 < 200 by omega)
  have hl0 := tp_ch_lt hx i
  have hl3 := tp_ch_lt hx (i + 3)
  unfold fX4_readStore tp_store
  rw [e_is hr.1, Option.bind_some, t0, Option.bind_some, tp_0, tp_1, show (93 : Int32) = nI 93 from rfl, show (61 : Int32) = nI 61 from rfl, show (5 : Int32) = nI 5 from rfl]
  by_cases e0 : tp_reg (tp_ch T L i)
  · rw [if_pos e0, if_pos e0]
    dsimp only
    rw [if_neg (tp_m6e (by omega)), t1, Option.bind_some]
    by_cases e1 : tp_ch T L (i + 1) = 93
    · rw [if_pos e1, if_pos e1]
      dsimp only
      rw [if_neg (by decide), t2, Option.bind_some]
      by_cases e2 : tp_ch T L (i + 2) = 61
      · rw [if_pos e2, if_pos e2]
        dsimp only
        rw [if_neg (by decide), t3, Option.bind_some]
        by_cases e3 : tp_reg (tp_ch T L (i + 3))
        · rw [if_pos e3, if_pos e3]
          dsimp only
          obtain ⟨I', g1, g2⟩ := p_addRO (n := n) (i := i + 4) (x1 := nI 5) (x2 := nI (tp_ch T L i - 97)) (x3 := nI (tp_ch T L (i + 3) - 97)) (x4 := -nI 6) (x5 := -nI 6) hr hz h12
          rw [if_neg (tp_m6e (by omega)), e_gP hr.1, hr.2.1, Option.bind_some, show (-6 : Int32) = -nI 6 from rfl, g1, Option.bind_some]
          exact pRA.won g2
        · rw [if_neg e3, if_neg e3]
          dsimp only
          first | rw [if_pos rfl] | rw [if_pos tp_6e]
          exact pRA.fail
      · rw [if_neg e2, if_neg e2]
        dsimp only
        first | rw [if_pos rfl] | rw [if_pos tp_6e]
        exact pRA.fail
    · rw [if_neg e1, if_neg e1]
      dsimp only
      first | rw [if_pos rfl] | rw [if_pos tp_6e]
      exact pRA.fail
  · rw [if_neg e0, if_neg e0]
    dsimp only
    first | rw [if_pos rfl] | rw [if_pos tp_6e]
    exact pRA.fail
theorem p_sign (hr : pRd sh P d pd) (hx : pTx T L) (hT : pTI J pd T L) (hi : i < 200) : fX4_takeSign (n, sh, P, tw_up J d 3 (nI i)) d = some (if tp_sg (tp_ch T L i) = 0 then (-nI 6, (n, sh, P, tw_up J d 3 (nI i))) else (nI (tp_sg (tp_ch T L i)), (n, sh, P, tw_up J d 3 (nI (i + 1))))) := by
  have t0 := p_take (n := n) hr hx hT hi (show 43 < 65536 by decide)
  have t1 := p_take (n := n) hr hx hT hi (show 45 < 65536 by decide)
  have t2 := p_take (n := n) hr hx hT hi (show 42 < 65536 by decide)
  unfold fX4_takeSign tp_sg
  rw [e_is hr.1, Option.bind_some, tp_0, tp_1, show (43 : Int32) = nI 43 from rfl, show (45 : Int32) = nI 45 from rfl, show (42 : Int32) = nI 42 from rfl, t0, Option.bind_some]
  by_cases e0 : tp_ch T L i = 43
  · rw [if_pos e0]
    simp only [e0]
    rw [if_neg (by decide)]
    rfl
  · rw [if_neg e0]
    dsimp only
    rw [if_pos rfl, t1, Option.bind_some]
    by_cases e1 : tp_ch T L i = 45
    · rw [if_pos e1]
      simp only [e1]
      rw [if_neg (by decide)]
      rfl
    · rw [if_neg e1]
      dsimp only
      rw [if_pos rfl, t2, Option.bind_some]
      by_cases e2 : tp_ch T L i = 42
      · rw [if_pos e2]
        simp only [e2]
        rw [if_neg (by decide)]
        rfl
      · rw [if_neg e2]
        dsimp only
        rw [if_pos rfl, if_pos (by rw [if_neg e0, if_neg e1, if_neg e2])]
        rfl
theorem pRA.bz {x : Option (Int32 × tw_St)} {q : tp_RO} (h : pRA n sh P d J x q) : pRA n sh P d J (x.bind fun q => (tw_bz q.1).bind fun _ => some (q.1, q.2)) q := by
  obtain ⟨I', e, h2⟩ := h
  refine ⟨I', ?_, h2⟩
  rw [e, Option.bind_some]
  dsimp only
  split <;> rfl
theorem p_given (hr : pRd sh P d pd) (hx : pTx T L) (hT : pTI J pd T L) (hi : i < 180) (hz : J (d + 1) 0 = nI z) (h12 : z ≤ 12) : pRA n sh P d J (fX4_readGiven (n, sh, P, tw_up J d 3 (nI i)) d (nI r)) (tp_giv (tp_ch T L) r i) := by
  have t0 := p_take (n := n) hr hx hT (show i < 200 by omega) (show 91 < 65536 by decide)
  have t1 := p_takeReg (n := n) hr hx hT (show i < 200 by omega)
  have t2 := p_sign (n := n) hr hx hT (show i + 1 < 200 by omega)
  have t3 := p_takeReg (n := n) hr hx hT (show i + 2 < 200 by omega)
  have t4 := p_number (n := n) (k := 0) (r := r) hr hx hT (show i < 190 by omega) hz h12
  have t5 := p_load (n := n) (r := r) hr hx hT (show i + 1 < 190 by omega) hz h12
  have hl0 := tp_ch_lt hx i
  have hl2 := tp_ch_lt hx (i + 2)
  unfold fX4_readGiven tp_giv
  rw [e_is hr.1, Option.bind_some, tp_0, tp_1, show (91 : Int32) = nI 91 from rfl, t0, Option.bind_some]
  by_cases e0 : tp_ch T L i = 91
  · rw [if_pos e0, if_pos e0]
    dsimp only
    rw [if_neg (by decide)]
    exact t5.bz
  · rw [if_neg e0, if_neg e0]
    dsimp only
    rw [if_pos rfl, t1, Option.bind_some]
    by_cases e1 : tp_reg (tp_ch T L i)
    · rw [if_pos e1, if_pos e1]
      dsimp only
      rw [if_neg (tp_m6e (by omega)), t2, Option.bind_some]
      by_cases e2 : tp_sg (tp_ch T L (i + 1)) = 0
      · rw [if_pos e2, if_pos e2]
        dsimp only
        first | rw [if_pos rfl] | rw [if_pos tp_6e]
        exact pRA.fail
      · have hs : tp_sg (tp_ch T L (i + 1)) < 10 := by unfold tp_sg; split <;> (try split) <;> (try split) <;> omega
        rw [if_neg e2, if_neg e2]
        dsimp only
        rw [if_neg (tp_m6e (by omega)), t3, Option.bind_some]
        by_cases e3 : tp_reg (tp_ch T L (i + 2))
        · rw [if_pos e3, if_pos e3]
          dsimp only
          obtain ⟨I', g1, g2⟩ := p_addRO (n := n) (i := i + 3) (x1 := nI (tp_sg (tp_ch T L (i + 1)))) (x2 := nI r) (x3 := nI (tp_ch T L i - 97)) (x4 := nI (tp_ch T L (i + 2) - 97)) (x5 := -nI 6) hr hz h12
          rw [if_neg (tp_m6e (by omega)), e_gP hr.1, hr.2.1, Option.bind_some, show (-6 : Int32) = -nI 6 from rfl, g1, Option.bind_some]
          exact pRA.won g2
        · rw [if_neg e3, if_neg e3]
          dsimp only
          first | rw [if_pos rfl] | rw [if_pos tp_6e]
          exact pRA.fail
    · rw [if_neg e1, if_neg e1]
      dsimp only
      first | rw [if_pos rfl] | rw [if_pos tp_6e]
      exact t4.bz
theorem p_order (hr : pRd sh P d pd) (hx : pTx T L) (hT : pTI J pd T L) (hi : i < 170) (hz : J (d + 1) 0 = nI z) (h12 : z ≤ 12) : pRA n sh P d J (fX4_readOrder (n, sh, P, tw_up J d 3 (nI i)) d) (tp_ordr (tp_ch T L) i) := by
  have t0 := p_take (n := n) hr hx hT (show i < 200 by omega) (show 91 < 65536 by decide)
  have t1 := p_takeReg (n := n) hr hx hT (show i < 200 by omega)
  have t2 := p_take (n := n) hr hx hT (show i + 1 < 200 by omega) (show 63 < 65536 by decide)
  have t3 := p_take (n := n) hr hx hT (show i + 1 < 200 by omega) (show 61 < 65536 by decide)
  have t4 := p_number (n := n) (k := 6) (r := tp_ch T L i - 97) hr hx hT (show i + 2 < 190 by omega) hz h12
  have t5 := p_given (n := n) (r := tp_ch T L i - 97) hr hx hT (show i + 2 < 180 by omega) hz h12
  have t6 := p_store (n := n) hr hx hT (show i + 1 < 190 by omega) hz h12
  have hl0 := tp_ch_lt hx i
  unfold fX4_readOrder tp_ordr
  rw [e_is hr.1, Option.bind_some, tp_0, tp_1, show (91 : Int32) = nI 91 from rfl, t0, Option.bind_some, show (63 : Int32) = nI 63 from rfl, show (61 : Int32) = nI 61 from rfl, show (6 : Int32) = nI 6 from rfl]
  by_cases e0 : tp_ch T L i = 91
  · rw [if_pos e0, if_pos e0]
    dsimp only
    rw [if_neg (by decide)]
    exact t6.bz
  · rw [if_neg e0, if_neg e0]
    dsimp only
    rw [if_pos rfl, t1, Option.bind_some]
    by_cases e1 : tp_reg (tp_ch T L i)
    · rw [if_pos e1, if_pos e1]
      dsimp only
      rw [if_neg (show ¬ nI (tp_ch T L i - 97) = -nI 6 from tp_m6e (by omega)), t2, Option.bind_some]
      by_cases e2 : tp_ch T L (i + 1) = 63
      · rw [if_pos e2, if_pos e2]
        dsimp only
        rw [if_neg (by decide)]
        exact t4.bz
      · rw [if_neg e2, if_neg e2]
        dsimp only
        rw [if_pos rfl, t3, Option.bind_some]
        by_cases e3 : tp_ch T L (i + 1) = 61
        · rw [if_pos e3, if_pos e3]
          dsimp only
          rw [if_neg (by decide)]
          obtain ⟨I', g1, g2⟩ := t5
          refine ⟨I', ?_, g2⟩
          rw [g1, Option.bind_some]
          dsimp only
          split <;> rfl
        · rw [if_neg e3, if_neg e3]
          dsimp only
          first | rw [if_pos rfl] | rw [if_pos tp_6e]
          exact pRA.fail
    · rw [if_neg e1, if_neg e1]
      dsimp only
      first | rw [if_pos rfl] | rw [if_pos tp_6e]
      exact pRA.fail
end TPQ
