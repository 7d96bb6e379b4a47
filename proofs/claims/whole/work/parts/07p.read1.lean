/-! The text and its reader. -/
def tp_ch (T : Nat → Nat) (L i : Nat) : Nat := if i < L then T i else 0
def pTx (T : Nat → Nat) (L : Nat) : Prop := L ≤ 80 ∧ ∀ i, i < L → 33 ≤ T i ∧ T i ≤ 126
def tp_o5 (a b c d e : Int32) : Nat → Int32 := fun j => if j = 0 then a else if j = 1 then b else if j = 2 then c else if j = 3 then d else e
abbrev tp_dig (c : Nat) : Prop := 48 ≤ c ∧ c < 58
abbrev tp_reg (c : Nat) : Prop := 97 ≤ c ∧ c < 101
abbrev tp_RO : Type := Nat × Option (Nat → Int32)
def tp_num (ch : Nat → Nat) (k r i : Nat) : tp_RO :=
  if tp_dig (ch i) then
    (if ch i ≠ 48 ∧ tp_dig (ch (i + 1)) then (i + 2, some (tp_o5 (nI k) (nI r) (-nI 6) (-nI 6) (nI ((ch i - 48) * 10 + (ch (i + 1) - 48)))))
     else (i + 1, some (tp_o5 (nI k) (nI r) (-nI 6) (-nI 6) (nI (ch i - 48)))))
  else (i, none)
def tp_load (ch : Nat → Nat) (r i : Nat) : tp_RO :=
  if tp_reg (ch i) then (if ch (i + 1) = 93 then (i + 2, some (tp_o5 (nI 4) (nI r) (nI (ch i - 97)) (-nI 6) (-nI 6))) else (i + 1, none)) else (i, none)
def tp_sg (c : Nat) : Nat := if c = 43 then 1 else if c = 45 then 2 else if c = 42 then 3 else 0
def tp_giv (ch : Nat → Nat) (r i : Nat) : tp_RO :=
  if ch i = 91 then tp_load ch r (i + 1)
  else if tp_reg (ch i) then
    (if tp_sg (ch (i + 1)) = 0 then (i + 1, none)
     else if tp_reg (ch (i + 2)) then (i + 3, some (tp_o5 (nI (tp_sg (ch (i + 1)))) (nI r) (nI (ch i - 97)) (nI (ch (i + 2) - 97)) (-nI 6))) else (i + 2, none))
  else tp_num ch 0 r i
def tp_store (ch : Nat → Nat) (i : Nat) : tp_RO :=
  if tp_reg (ch i) then
    (if ch (i + 1) = 93 then (if ch (i + 2) = 61 then (if tp_reg (ch (i + 3)) then (i + 4, some (tp_o5 (nI 5) (nI (ch i - 97)) (nI (ch (i + 3) - 97)) (-nI 6) (-nI 6))) else (i + 3, none)) else (i + 2, none)) else (i + 1, none))
  else (i, none)
def tp_ordr (ch : Nat → Nat) (i : Nat) : tp_RO :=
  if ch i = 91 then tp_store ch (i + 1)
  else if tp_reg (ch i) then
    (if ch (i + 1) = 63 then tp_num ch 6 (ch i - 97) (i + 2)
     else if ch (i + 1) = 61 then tp_giv ch (ch i - 97) (i + 2) else (i + 1, none))
  else (i, none)
def pRd (sh : tw_Sh) (P : Nat → Nat → Option Nat) (d pd : Nat) : Prop := sh d = some (4, 4) ∧ P d 0 = some (d + 1) ∧ P d 2 = some pd ∧ pPr sh P (d + 1) ∧ sh pd = some (1, 2) ∧ P pd 1 = some (pd + 1) ∧ sh (pd + 1) = some (21, 80) ∧ (pd + 2 ≤ d ∨ d + 3 ≤ pd)
def pTI (I : Nat → Nat → Int32) (pd : Nat) (T : Nat → Nat) (L : Nat) : Prop := I pd 0 = nI L ∧ ∀ i, i < L → I (pd + 1) i = nI (T i)
/-- what reading an order leaves behind -/
def pRO (d : Nat) (J I' : Nat → Nat → Int32) (r : tp_RO) : Prop := I' d 3 = nI r.1 ∧ (∀ k, k ≠ 3 → I' d k = J d k) ∧ (∀ c, c ≠ d → c ≠ d + 1 → c ≠ d + 2 → I' c = J c) ∧ (r.2 = none → I' (d + 1) = J (d + 1) ∧ I' (d + 2) = J (d + 2)) ∧ ∀ o, r.2 = some o → ∀ z, J (d + 1) 0 = nI z → z ≤ 12 → I' (d + 1) 0 = nI (if z < 12 then z + 1 else 12) ∧ (z < 12 → ∀ c, c < 5 → I' (d + 2) (z * 5 + c) = o c) ∧ ∀ k, k < z * 5 → I' (d + 2) k = J (d + 2) k
section TPP
variable {n : Nat} {sh : tw_Sh} {P : Nat → Nat → Option Nat} {I J : Nat → Nat → Int32} {a d pd i c z L : Nat} {T : Nat → Nat}
theorem tw_up_up {f : Nat → Nat → Int32} {a k : Nat} {x y : Int32} : tw_up (tw_up f a k x) a k y = tw_up f a k y := by
  funext b j
  unfold tw_up
  split <;> rfl
theorem tw_up_self {f : Nat → Nat → Int32} {a k : Nat} : tw_up f a k (f a k) = f := by
  funext b j
  unfold tw_up
  split
  · rename_i h; rw [h.1, h.2]
  · rfl
theorem p_charAt (hr : pRd sh P d pd) (hx : pTx T L) (hT : pTI I pd T L) (hi : i < 200) : fX1_charAt (n, sh, P, I) pd (nI i) = some (nI (tp_ch T L i)) := by
  obtain ⟨r1, r2, r3, r4, r5, r6, r7, r8⟩ := hr
  have hL := hx.1
  unfold fX1_charAt tp_ch
  rw [show (0 : Int32) = nI 0 from rfl, show (80 : Int32) = nI 80 from rfl]
  simp (disch := omega) only [e_is r5, e_gI r5, hT.1, nI_ltI, nI_leI, e_gP r5, r6, Option.bind_some]
  rw [if_neg (by omega)]
  by_cases e : L ≤ i
  · rw [if_pos e, if_neg (by omega)]
  · have h1 := hT.2 i (by omega)
    have h2 := hx.2 i (by omega)
    have h3 : tw_bc (nI (T i)) = some (nI (T i)) := by
      unfold tw_bc
      rw [if_pos]
      exact ⟨fun z => by have := (nI_ltI (show T i < 2 ^ 31 by omega) (show 0 < 2 ^ 31 by decide)).mp z; omega, (nI_ltI (by omega) (show 65536 < 2 ^ 31 by decide)).mpr (by omega)⟩
    rw [if_neg e, if_neg (by omega), if_pos (by omega), e_aI r7 (by omega) (by decide), Option.bind_some, h1, h3, Option.bind_some]
theorem pTI.at (hr : pRd sh P d pd) (hT : pTI J pd T L) : pTI (tw_up J d 3 (nI i)) pd T L := by
  obtain ⟨r1, r2, r3, r4, r5, r6, r7, r8⟩ := hr
  exact ⟨by rw [tw_up_a (by omega)]; exact hT.1, fun i hi => by rw [tw_up_a (by omega)]; exact hT.2 i hi⟩
theorem tp_ch_lt (hx : pTx T L) (i : Nat) : tp_ch T L i < 127 := by
  unfold tp_ch
  split
  · rename_i h; have := hx.2 i h; omega
  · omega
theorem p_take (hr : pRd sh P d pd) (hx : pTx T L) (hT : pTI J pd T L) (hi : i < 200) (hc : c < 65536) : fX4_take (n, sh, P, tw_up J d 3 (nI i)) d (nI c) = some (if tp_ch T L i = c then (nI 1, (n, sh, P, tw_up J d 3 (nI (i + 1)))) else (nI 0, (n, sh, P, tw_up J d 3 (nI i)))) := by
  have h1 := p_charAt (n := n) (I := tw_up J d 3 (nI i)) hr hx (hT.at hr) hi
  have h2 := tp_ch_lt hx i
  obtain ⟨r1, r2, r3, r4, r5, r6, r7, r8⟩ := hr
  unfold fX4_take
  rw [show (1 : Int32) = nI 1 from rfl, show (0 : Int32) = nI 0 from rfl]
  simp (disch := omega) only [e_is r1, e_gP r1, r3, e_gI r1, tw_up_at, h1, nI_eq, e_pI r1, nI_add, tw_up_up, Option.bind_some]
  split <;> rfl
theorem p_takeFrom (hr : pRd sh P d pd) (hx : pTx T L) (hT : pTI J pd T L) (hi : i < 200) {lo m : Nat} (hlo : lo < 1000) (hm : m < 1000) : fX4_takeFrom (n, sh, P, tw_up J d 3 (nI i)) d (nI lo) (nI m) = some (if lo ≤ tp_ch T L i ∧ tp_ch T L i < lo + m then (nI (tp_ch T L i - lo), (n, sh, P, tw_up J d 3 (nI (i + 1)))) else (-nI 6, (n, sh, P, tw_up J d 3 (nI i)))) := by
  have h1 := p_charAt (n := n) (I := tw_up J d 3 (nI i)) hr hx (hT.at hr) hi
  have h2 := tp_ch_lt hx i
  obtain ⟨r1, r2, r3, r4, r5, r6, r7, r8⟩ := hr
  unfold fX4_takeFrom
  rw [show (1 : Int32) = nI 1 from rfl, show (0 : Int32) = nI 0 from rfl]
  simp (disch := omega) only [e_is r1, e_gP r1, r3, e_gI r1, tw_up_at, h1, e_pI r1, nI_add, tw_up_up, Option.bind_some]
  by_cases e : lo ≤ tp_ch T L i
  · rw [pk_sub e, if_neg (by rw [nI_ltI (by omega) (by decide)]; omega)]
    by_cases e2 : tp_ch T L i < lo + m
    · rw [if_pos ((nI_ltI (by omega) (by omega)).mpr (by omega)), if_pos ⟨e, e2⟩]
    · rw [if_neg (by rw [nI_ltI (by omega) (by omega)]; omega), if_neg (fun z => e2 z.2)]; rfl
  · rw [tp_subneg (by omega)]
    have hneg : ∀ q, q < 1000 → -nI (q + 1) < nI 0 := by decide +kernel
    rw [if_pos (by rw [show lo - tp_ch T L i = (lo - tp_ch T L i - 1) + 1 by omega]; exact hneg _ (by omega)), if_neg (fun z => e z.1)]; rfl
theorem p_takeReg (hr : pRd sh P d pd) (hx : pTx T L) (hT : pTI J pd T L) (hi : i < 200) : fX4_takeRegister (n, sh, P, tw_up J d 3 (nI i)) d = some (if tp_reg (tp_ch T L i) then (nI (tp_ch T L i - 97), (n, sh, P, tw_up J d 3 (nI (i + 1)))) else (-nI 6, (n, sh, P, tw_up J d 3 (nI i)))) := by
  have h := p_takeFrom (n := n) hr hx hT hi (show 97 < 1000 by decide) (show 4 < 1000 by decide)
  unfold fX4_takeRegister
  rw [e_is hr.1, Option.bind_some, show (97 : Int32) = nI 97 from rfl, show (4 : Int32) = nI 4 from rfl, h, Option.bind_some]
theorem p_add (hp : pPr sh P a) {x1 x2 x3 x4 x5 : Int32} (hz : I a 0 = nI z) (h12 : z ≤ 12) : ∃ I', fX3_add (n, sh, P, I) a x1 x2 x3 x4 x5 = some (n, sh, P, I') ∧ (∀ c, c ≠ a → c ≠ a + 1 → I' c = I c) ∧ I' a 0 = nI (if z < 12 then z + 1 else 12) ∧ (z < 12 → ∀ c, c < 5 → I' (a + 1) (z * 5 + c) = tp_o5 x1 x2 x3 x4 x5 c) ∧ ∀ k, k < z * 5 → I' (a + 1) k = I (a + 1) k := by
  unfold fX3_add
  rw [show (0 : Int32) = nI 0 from rfl, show (1 : Int32) = nI 1 from rfl, show (12 : Int32) = nI 12 from rfl, show (5 : Int32) = nI 5 from rfl, show (2 : Int32) = nI 2 from rfl, show (3 : Int32) = nI 3 from rfl, show (4 : Int32) = nI 4 from rfl]
  simp (disch := omega) only [e_is hp.1, e_gI hp.1, hz, nI_ltI, Option.bind_some]
  rw [if_neg (by omega)]
  by_cases e : z < 12
  · rw [if_pos e, if_pos e]
    simp (disch := omega) only [e_gP hp.1, hp.2.1, pk_mul, nI_add, e_wI hp.2.2, e_gI hp.1, e_pI hp.1, tw_up_a, hz, Option.bind_some]
    refine ⟨_, rfl, fun c h1 h2 => ?_, tw_up_at, fun _ c hc => ?_, fun k hk => ?_⟩
    · simp (disch := omega) only [tw_up_a]
    · rw [tw_up_a (by omega)]
      rcases (show c = 0 ∨ c = 1 ∨ c = 2 ∨ c = 3 ∨ c = 4 by omega) with rfl | rfl | rfl | rfl | rfl
      · simp (disch := omega) only [tw_up_k, tw_up_at]; rfl
      · simp (disch := omega) only [tw_up_k, tw_up_at]; rfl
      · simp (disch := omega) only [tw_up_k, tw_up_at]; rfl
      · simp (disch := omega) only [tw_up_k, tw_up_at]; rfl
      · simp (disch := omega) only [tw_up_k, tw_up_at]; rfl
    · rw [tw_up_a (by omega)]
      simp (disch := omega) only [tw_up_k]
  · rw [if_neg e, if_neg e]
    exact ⟨I, rfl, fun _ _ _ => rfl, by rw [hz]; congr 1; omega, fun h => absurd h e, fun _ _ => rfl⟩
end TPP
