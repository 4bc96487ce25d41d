/-! longs: the arithmetic of keys -/
theorem l_ext {a b : Int64} (h : a.toBitVec.toNat = b.toBitVec.toNat) : a = b := Int64.toBitVec_inj.mp (BitVec.eq_of_toNat_eq h)
theorem lN_tn {n : Nat} (h : n < 2 ^ 64) : (lN n).toBitVec.toNat = n := by
  show (BitVec.ofNat 64 n).toNat = n
  rw [BitVec.toNat_ofNat, Nat.mod_eq_of_lt h]
theorem l_u6 {N : Nat} (h : N < 2 ^ 64) : ((lN N).toUInt64 >>> ((nI 6).toInt64.toUInt64 &&& Int64.toUInt64 63)).toInt64 = lN (N / 64) := by
  have e : ((nI 6).toInt64.toUInt64 &&& Int64.toUInt64 63) = 6 := by decide +kernel
  rw [e]
  refine l_ext ?_
  rw [lN_tn (by omega)]
  show ((lN N).toUInt64 >>> (6 : UInt64)).toNat = N / 64
  have h2 : (lN N).toUInt64.toNat = N := lN_tn h
  rw [UInt64.toNat_shiftRight, h2]
  show N >>> 6 = N / 64
  rw [Nat.shiftRight_eq_div_pow]
theorem l_sign {N : Nat} (h : N < 2 ^ 63) : ((lN N >>> ((nI 2).toInt64 &&& 63)).toInt32 &&& nI 15) = nI (N / 4 % 16) := by
  have e : ((nI 2).toInt64 &&& 63) = 2 := by decide +kernel
  rw [e, ← Int32.toBitVec_inj]
  show ((BitVec.ofNat 64 N).sshiftRight' ((2 : Int64).toBitVec.smod 64)).signExtend 32 &&& BitVec.ofNat 32 15 = BitVec.ofNat 32 (N / 4 % 16)
  have e2 : (2 : Int64).toBitVec.smod 64 = 2#64 := by decide +kernel
  rw [e2]
  refine BitVec.eq_of_getLsbD_eq fun i hi => ?_
  have e3 : N / 4 % 16 = (N >>> 2) % 2 ^ 4 := by rw [Nat.shiftRight_eq_div_pow]
  rw [e3]
  have e4 : (15 : Nat) = 2 ^ 4 - 1 := by decide
  simp only [BitVec.getLsbD_and, BitVec.getLsbD_signExtend, BitVec.getLsbD_ofNat, BitVec.sshiftRight_eq', BitVec.getLsbD_sshiftRight, Nat.testBit_mod_two_pow, Nat.testBit_shiftRight]
  rw [e4, Nat.testBit_two_pow_sub_one]
  by_cases q : i < 4
  · have : (2#64).toNat = 2 := by decide
    simp only [this, q, hi, decide_true, Bool.true_and, Bool.and_true]
    have h1 : ¬ 64 ≤ i := by omega
    have h2 : 2 + i < 64 := by omega
    simp [h1, h2]
  · simp [q]
theorem l_end {N : Nat} : ((lN N).toInt32 &&& nI 3) = nI (N % 4) := by
  rw [← Int32.toBitVec_inj]
  show (BitVec.ofNat 64 N).signExtend 32 &&& BitVec.ofNat 32 3 = BitVec.ofNat 32 (N % 4)
  refine BitVec.eq_of_getLsbD_eq fun i hi => ?_
  have e3 : N % 4 = N % 2 ^ 2 := rfl
  have e4 : (3 : Nat) = 2 ^ 2 - 1 := by decide
  rw [e3]
  simp only [BitVec.getLsbD_and, BitVec.getLsbD_signExtend, BitVec.getLsbD_ofNat, Nat.testBit_mod_two_pow]
  rw [e4, Nat.testBit_two_pow_sub_one]
  have : i < 64 := by omega
  cases N.testBit i <;> simp [hi, this]
theorem l_shl (n : Nat) {k : Nat} (hk : k < 64) : lN n <<< ((nI k).toInt64 &&& 63) = lN (n * 2 ^ k) := by
  have e : ∀ k : Fin 64, ((nI k.val).toInt64 &&& 63).toBitVec.smod 64 = BitVec.ofNat 64 k.val := by decide +kernel
  refine l_ext ?_
  show ((lN n).toBitVec <<< (((nI k).toInt64 &&& 63).toBitVec.smod 64)).toNat = _
  rw [e ⟨k, hk⟩]
  show (BitVec.ofNat 64 n <<< BitVec.ofNat 64 k).toNat = (BitVec.ofNat 64 (n * 2 ^ k)).toNat
  rw [BitVec.shiftLeft_eq', BitVec.toNat_shiftLeft, BitVec.toNat_ofNat, BitVec.toNat_ofNat, BitVec.toNat_ofNat, Nat.mod_eq_of_lt (show k < 2 ^ 64 by omega), Nat.shiftLeft_eq, Nat.mul_mod, Nat.mod_mod, ← Nat.mul_mod]
theorem l_or {a b : Nat} (ha : a < 2 ^ 64) (hb : b < 2 ^ 64) : lN a ||| lN b = lN (a ||| b) := by
  refine l_ext ?_
  show (BitVec.ofNat 64 a ||| BitVec.ofNat 64 b).toNat = (BitVec.ofNat 64 (a ||| b)).toNat
  rw [BitVec.toNat_or, BitVec.toNat_ofNat, BitVec.toNat_ofNat, BitVec.toNat_ofNat, Nat.mod_eq_of_lt ha, Nat.mod_eq_of_lt hb, Nat.mod_eq_of_lt (Nat.or_lt_two_pow ha hb)]
theorem l_put {H c k : Nat} (hk : k < 10) (hH : H < 64 ^ k) (hc : c < 64) : lN H ||| (lN c <<< ((nI (6 * k)).toInt64 &&& 63)) = lN (H + c * 64 ^ k) := by
  have e : (64 : Nat) ^ k = 2 ^ (6 * k) := by rw [Nat.pow_mul]
  have b1 : (64 : Nat) ^ k ≤ 64 ^ 9 := Nat.pow_le_pow_right (by decide) (by omega)
  have b2 : c * 64 ^ k ≤ 63 * 64 ^ 9 := Nat.mul_le_mul (by omega) b1
  rw [l_shl _ (by omega), ← e, l_or (by omega) (by omega)]
  congr 1
  rw [e, Nat.or_comm, Nat.mul_comm c, ← Nat.two_pow_add_eq_or_of_lt (by rw [← e]; exact hH), Nat.add_comm]
theorem l_code {s e : Nat} (hs : s < 16) (he : e < 4) : (((nI s) <<< ((nI 2) &&& 31)) ||| (nI e)).toInt64 = lN (4 * s + e) := by
  have h : ∀ s : Fin 16, ∀ e : Fin 4, (((nI s.val) <<< ((nI 2) &&& 31)) ||| (nI e.val)).toInt64 = lN (4 * s.val + e.val) := by decide +kernel
  exact h ⟨s, hs⟩ ⟨e, he⟩
theorem l_zero {N : Nat} (h : N < 2 ^ 64) : lg_cmp (lN N) 0 = 0 ↔ N = 0 := by
  rw [lcmp0]
  constructor
  · intro q
    have := congrArg (fun x : Int64 => x.toBitVec.toNat) q
    simp only [lN_tn h] at this
    exact this
  · intro q
    rw [q]
    decide
/-- the codes that a long holds -/
def cds : Nat → Nat → List Nat
  | 0, _ => []
  | n + 1, N => if N = 0 then [] else N % 64 :: cds n (N / 64)
/-- the long that holds codes -/
def ncd : List Nat → Nat
  | [] => 0
  | c :: l => c + 64 * ncd l
theorem ncd_lt : ∀ {l : List Nat}, (∀ c ∈ l, c < 64) → ncd l < 64 ^ l.length
  | [], _ => by decide
  | c :: l, h => by
    have h1 := ncd_lt (l := l) fun x hx => h x (List.mem_cons_of_mem _ hx)
    have h2 := h c (List.mem_cons_self ..)
    rw [List.length_cons, Nat.pow_succ]
    unfold ncd
    omega
theorem ncd_s : ∀ {l : List Nat} {c : Nat}, ncd (l ++ [c]) = ncd l + c * 64 ^ l.length
  | [], c => by simp [ncd]
  | a :: l, c => by
    rw [List.cons_append]
    unfold ncd
    rw [ncd_s, List.length_cons, Nat.pow_succ, Nat.mul_add, ← Nat.add_assoc]
    congr 1
    rw [Nat.mul_comm (64 ^ l.length) 64, Nat.mul_left_comm]
theorem cds_ncd : ∀ {n : Nat} {l : List Nat}, l.length ≤ n → (∀ c ∈ l, c < 64 ∧ 0 < c) → cds n (ncd l) = l
  | 0, [], _, _ => rfl
  | n + 1, [], _, _ => by unfold cds ncd; rw [if_pos rfl]
  | 0, c :: l, h, _ => by simp at h
  | n + 1, c :: l, h, hc => by
    have h2 := hc c (List.mem_cons_self ..)
    have ih := cds_ncd (n := n) (l := l) (by simpa using h) fun x hx => hc x (List.mem_cons_of_mem _ hx)
    unfold cds ncd
    rw [if_neg (by omega), show (c + 64 * ncd l) % 64 = c by omega, show (c + 64 * ncd l) / 64 = ncd l by omega, ih]
