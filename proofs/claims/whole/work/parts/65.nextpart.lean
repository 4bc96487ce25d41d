/-! the class's Parts: nextPart -/
theorem nI_andnot {a b : Nat} : nI a &&& (nI b ^^^ (-1)) = nI (a ^^^ (a &&& b)) := by
  rw [← Int32.toBitVec_inj]
  show BitVec.ofNat 32 a &&& (BitVec.ofNat 32 b ^^^ (-1 : Int32).toBitVec) = BitVec.ofNat 32 (a ^^^ (a &&& b))
  have e : (-1 : Int32).toBitVec = BitVec.allOnes 32 := by decide
  rw [e]
  refine BitVec.eq_of_getLsbD_eq fun i hi => ?_
  simp only [BitVec.getLsbD_and, BitVec.getLsbD_xor, BitVec.getLsbD_allOnes, BitVec.getLsbD_ofNat, Nat.testBit_xor, Nat.testBit_and]
  cases a.testBit i <;> cases b.testBit i <;> simp [hi]
theorem nI_neg {v : Nat} (h : 1 ≤ v) (h2 : v < 2 ^ 32) : -(nI v) = nI (v - 1) ^^^ (-1) := by
  rw [← Int32.toBitVec_inj]
  show -(BitVec.ofNat 32 v) = BitVec.ofNat 32 (v - 1) ^^^ (-1 : Int32).toBitVec
  have e : (-1 : Int32).toBitVec = BitVec.allOnes 32 := by decide
  rw [e, BitVec.xor_allOnes]
  refine BitVec.eq_of_toNat_eq ?_
  rw [BitVec.toNat_neg, BitVec.toNat_not, BitVec.toNat_ofNat, BitVec.toNat_ofNat, Nat.mod_eq_of_lt h2, Nat.mod_eq_of_lt (by omega)]
  omega
def sub (m v : Nat) : Prop := ∀ i, m.testBit i = true → v.testBit i = true
def pop (m : Nat) : Nat → Nat
  | 0 => 0
  | n + 1 => pop m n + (if m.testBit n = true then 1 else 0)
theorem pop_le {m : Nat} : ∀ n, pop m n ≤ n
  | 0 => Nat.le_refl _
  | n + 1 => by
    have := pop_le (m := m) n
    unfold pop
    split <;> omega
theorem pop_mono {m v : Nat} (h : sub m v) : ∀ n, pop m n ≤ pop v n
  | 0 => Nat.le_refl _
  | n + 1 => by
    have := pop_mono h n
    unfold pop
    by_cases e : m.testBit n = true
    · rw [if_pos e, if_pos (h n e)]; omega
    · rw [if_neg e]; omega
theorem pop_lt {m v : Nat} (h : sub m v) : ∀ {n i}, i < n → m.testBit i = false → v.testBit i = true → pop m n < pop v n
  | 0, i, hi, _, _ => absurd hi (Nat.not_lt_zero _)
  | n + 1, i, hi, h1, h2 => by
    unfold pop
    by_cases e : i = n
    · subst e
      have := pop_mono h i
      rw [if_pos h2, if_neg (by rw [h1]; simp)]
      omega
    · have := pop_lt h (show i < n by omega) h1 h2
      by_cases e : m.testBit n = true
      · rw [if_pos e, if_pos (h n e)]; omega
      · rw [if_neg e]; omega
theorem bit_hi {m n i : Nat} (h : m < 2 ^ n) (hi : m.testBit i = true) : i < n := Nat.lt_of_not_le fun q => by
  rw [Nat.testBit_lt_two_pow (Nat.lt_of_lt_of_le h (Nat.pow_le_pow_right (by decide) q))] at hi
  cases hi
theorem bit_ex {m v : Nat} (h : sub m v) (hne : m ≠ v) : ∃ i, m.testBit i = false ∧ v.testBit i = true := Classical.byContradiction fun q => hne (Nat.eq_of_testBit_eq fun i => by
  cases e : v.testBit i with
  | false =>
    cases e2 : m.testBit i with
    | false => rfl
    | true => rw [h i e2] at e; cases e
  | true =>
    cases e2 : m.testBit i with
    | true => rfl
    | false => exact absurd ⟨i, e2, e⟩ q)
theorem sub_lt {m v n : Nat} (h : sub m v) (hv : v < 2 ^ n) : m < 2 ^ n := Nat.lt_pow_two_of_testBit _ fun i hi => by
  cases e : m.testBit i with
  | false => rfl
  | true => have := bit_hi hv (h i e); omega
def clsd (lN : Nat → Nat) (w : Nat) : Prop := ∀ f, w.testBit f = true → sub (lN f) w
theorem low_bit {v : Nat} (h2 : v < 2 ^ 31) : ∃ w, nI v &&& -(nI v) = nI w ∧ sub w v ∧ (v ≠ 0 → w ≠ 0) := by
  by_cases e : v = 0
  · subst e
    exact ⟨0, by decide, fun i q => q, fun q => absurd rfl q⟩
  · refine ⟨v ^^^ (v &&& (v - 1)), ?_, fun i q => ?_, fun _ q => ?_⟩
    · rw [nI_neg (by omega) (by omega), nI_andnot]
    · rw [Nat.testBit_xor, Nat.testBit_and] at q
      cases e : v.testBit i with
      | true => rfl
      | false => rw [e] at q; cases q
    · have q2 : v = v &&& (v - 1) := by
        have := congrArg (fun x => x ^^^ (v &&& (v - 1))) q
        simp only [Nat.xor_assoc, Nat.xor_self, Nat.xor_zero, Nat.zero_xor] at this
        exact this
      have : v &&& (v - 1) ≤ v - 1 := Nat.and_le_right
      omega
theorem diff_tb {v w i : Nat} : (v ^^^ (v &&& w)).testBit i = true ↔ (v.testBit i = true ∧ w.testBit i = false) := by
  rw [Nat.testBit_xor, Nat.testBit_and]
  cases v.testBit i <;> cases w.testBit i <;> simp
section PT
variable {sc : ipSc} {d z b n : Nat} {h : HP} {tm fi la lk : Nat → Int32} {lN : Nat → Nat}
set_option maxHeartbeats 1000000 in
theorem t_nextPart {v : Nat} (H : ptA h b (nI v) tm fi la lk) (hl : ∀ g, g < n → lk g = nI (lN g)) (hn : n ≤ 24) (hv : v < 2 ^ n) (hc : clsd lN v) : ipC sc (d + 1) 33 [.ref b, .int (nI n)] h z 0 0 (fun o h2 z2 => z2 = z ∧ ∃ w, o = some (.int (nI w)) ∧ sub w v ∧ (v ≠ 0 → w ≠ 0) ∧ clsd lN w ∧ frm b 5 h h2 ∧ ptA h2 b (nI (v ^^^ (v &&& w))) tm fi la lk) := by
  obtain ⟨g0, g1, g2, g3, g4⟩ := id H
  have hp24 : 2 ^ n ≤ 2 ^ 24 := Nat.pow_le_pow_right (by decide) hn
  generalize hQ : (fun (o : Option Value) (h2 : HP) (z2 : Nat) => z2 = z ∧ ∃ w, o = some (.int (nI w)) ∧ sub w v ∧ (v ≠ 0 → w ≠ 0) ∧ clsd lN w ∧ frm b 5 h h2 ∧ ptA h2 b (nI (v ^^^ (v &&& w))) tm fi la lk) = Q0
  have fin : ∀ (p : Nat) (o1 o3 o4 o5 : Option Value), sub p v → (v ≠ 0 → p ≠ 0) → clsd lN p → ip sc (ipC sc d) 33 0 0 Q0 71 [some (.ref b), o1, some (.int (nI p)), o3, o4, o5] [] h z 0 0 := by
    intro p o1 o3 o4 o5 k1 k2 k3
    refine c33_71 (v_fs1_4 := v) g0 rfl rfl ?_
    rw [nI_andnot, ← hQ]
    exact ⟨rfl, p, rfl, k1, k2, k3, frm.rf.up (by omega), hup_eq, hup_ne (by omega) g1, hup_ne (by omega) g2, hup_ne (by omega) g3, hup_ne (by omega) g4⟩
  -- one pass over the fields
  have pass : ∀ (m f q p r : Nat), f + m = n → r < n → sub q p → sub p v → (q = 0 → p = 0) → (p = q → ∀ g, g < f → q.testBit g = true → sub (lN g) q) → (∀ (p2 : Nat) (o5 : Option Value), sub q p2 → sub p2 v → (q = 0 → p2 = 0) → (p2 = q → ∀ g, g < n → q.testBit g = true → sub (lN g) q) → ip sc (ipC sc d) 33 0 0 Q0 56 [some (.ref b), some (.int (nI n)), some (.int (nI p2)), some (.int (nI r)), some (.int (nI q)), o5] [] h z 0 0) → ip sc (ipC sc d) 33 0 0 Q0 24 [some (.ref b), some (.int (nI n)), some (.int (nI p)), some (.int (nI r)), some (.int (nI q)), some (.int (nI f))] [] h z 0 0 := by
    intro m
    induction m with
    | zero =>
      intro f q p r hf hr k1 k2 k3 k4 K
      refine c33_24 (by omega) (by omega) (fun _ => K p _ k1 k2 k3 ?_) (fun r => absurd (by omega) r)
      rw [← show f = n by omega]
      exact k4
    | succ m ih =>
      intro f q p r hf hr k1 k2 k3 k4 K
      have hpl := sub_lt k2 hv
      refine c33_24 (by omega) (by omega) (fun r => absurd r (by omega)) (fun _ => ?_)
      have hbit : ((((nI p) >>> ((nI f) &&& 31)) &&& (nI 1)) = (nI 1)) ↔ p.testBit f = true := by
        rw [bitN (by omega) (by omega), ← bit_mod]
        have : p / 2 ^ f % 2 < 2 := Nat.mod_lt _ (by decide)
        exact ⟨fun q => (nI_eq (by omega) (by omega)).mp q, fun q => by rw [q]⟩
      refine c33_30 (fun e => c33_50 (ih (f + 1) q p r (by omega) hr k1 k2 k3 (fun e2 g hg hb => ?_) K)) (fun e => ?_)
      · by_cases e3 : g = f
        · subst e3
          exact absurd (hbit.mpr (e2 ▸ hb)) e
        · exact k4 e2 g (by omega) hb
      · have hb := hbit.mp (Decidable.not_not.mp e)
        refine c33_40 g0 rfl g4 (by omega) (by decide) (hl f (by omega)) ?_
        rw [nI_or]
        refine c33_50 (ih (f + 1) q (p ||| lN f) r (by omega) hr (fun i hi => ?_) (fun i hi => ?_) (fun e2 => ?_) (fun e2 g hg hb2 => ?_) K)
        · rw [Nat.testBit_or, k1 i hi]; rfl
        · rw [Nat.testBit_or, Bool.or_eq_true] at hi
          rcases hi with hi | hi
          · exact k2 i hi
          · exact hc f (k2 f hb) i hi
        · rw [k3 e2] at hb
          simp at hb
        · have hpq : p = q := Nat.eq_of_testBit_eq fun i => by
            cases e3 : q.testBit i with
            | true => exact k1 i e3
            | false =>
              cases e4 : p.testBit i with
              | false => rfl
              | true =>
                have : (p ||| lN f).testBit i = true := by rw [Nat.testBit_or, e4]; rfl
                rw [e2, e3] at this
                cases this
          by_cases e3 : g = f
          · subst e3
            intro i hi
            have : (p ||| lN g).testBit i = true := by rw [Nat.testBit_or, hi]; simp
            rw [e2] at this
            exact this
          · exact k4 hpq g (by omega) hb2
  -- the passes
  have loop : ∀ (m r p : Nat) (o4 o5 : Option Value), r + m = n → sub p v → (v ≠ 0 → p ≠ 0) → (r + 1 ≤ pop p n ∨ (r = 0 ∧ p = 0)) → ip sc (ipC sc d) 33 0 0 Q0 13 [some (.ref b), some (.int (nI n)), some (.int (nI p)), some (.int (nI r)), o4, o5] [] h z 0 0 := by
    intro m
    induction m with
    | zero =>
      intro r p o4 o5 hr k1 k2 k3
      refine c33_13 (by omega) (by omega) (fun _ => ?_) (fun r => absurd (by omega) r)
      rcases k3 with k3 | ⟨rfl, rfl⟩
      · have := pop_le (m := p) n
        omega
      · exact fin 0 _ _ _ _ k1 k2 (fun f q => by simp at q)
    | succ m ih =>
      intro r p o4 o5 hr k1 k2 k3
      have hpl := sub_lt k1 hv
      refine c33_13 (by omega) (by omega) (fun r => absurd r (by omega)) (fun _ => c33_18 ?_)
      refine pass n 0 p p r (by omega) (by omega) (fun i q => q) k1 (fun q => q) (fun _ g hg => absurd hg (Nat.not_lt_zero _)) (fun p2 o5 j1 j2 j3 j4 => ?_)
      have hpl2 := sub_lt j2 hv
      refine c33_56 (by omega) (by omega) (fun e => c33_65 ?_) (fun e => ?_)
      · refine ih (r + 1) p2 _ _ (by omega) j2 (fun q e2 => ?_) (Or.inl ?_)
        · exact k2 q (Nat.eq_of_testBit_eq fun i => by
            cases e3 : p.testBit i with
            | false => simp
            | true => have := j1 i e3; rw [e2] at this; simp at this)
        · rcases k3 with k3 | ⟨rfl, rfl⟩
          · obtain ⟨i, i1, i2⟩ := bit_ex j1 (fun q => e q.symm)
            have := pop_lt j1 (bit_hi hpl2 i2) i1 i2
            omega
          · exact absurd (j3 rfl) e
      · have e := Decidable.not_not.mp e
        rw [e]
        refine c33_62 (fin p _ _ _ _ k1 k2 fun f hb => ?_)
        exact j4 e f (bit_hi hpl hb) hb
  obtain ⟨w, e1, e2, e3⟩ := low_bit (v := v) (by omega)
  refine ipC_mk [some (.ref b), some (.int (nI n)), none, none, none, none] rfl (Nat.le_of_ble_eq_true rfl) (c33_0 (v_fs1_4 := v) g0 rfl ?_)
  rw [e1]
  refine loop n 0 w none none (by omega) e2 e3 ?_
  by_cases q : w = 0
  · exact Or.inr ⟨rfl, q⟩
  · left
    obtain ⟨i, i1, i2⟩ := bit_ex (m := 0) (v := w) (fun i q => by simp at q) (fun r => q r.symm)
    have := pop_lt (m := 0) (v := w) (fun i q => by simp at q) (bit_hi (sub_lt e2 hv) i2) i1 i2
    omega
end PT
