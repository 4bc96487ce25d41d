/-! the class's Memo; numberOfTrailingZeros -/
def tzA (m : Nat) : Nat → Nat → Nat
  | 0, k => k
  | n + 1, k => if m.testBit k = true then tzA m n (k + 1) else k
def tzF (m : Nat) : Nat := tzA m 10 0
theorem tz_low : ∀ m : Fin 1024, (((nI m.val ^^^ (-1)) ^^^ (-1)) &&& ((nI m.val ^^^ (-1)) - 1)) = nI (2 ^ tzF m.val - 1) := by decide +kernel
theorem tz_le : ∀ m : Fin 1024, tzF m.val ≤ 10 := by decide +kernel
theorem tzA_spec {m : Nat} : ∀ n k, (∀ a, k ≤ a → a < tzA m n k → m.testBit a = true) ∧ k ≤ tzA m n k ∧ (tzA m n k < k + n → m.testBit (tzA m n k) = false) ∧ tzA m n k ≤ k + n
  | 0, k => ⟨fun a h1 h2 => by unfold tzA at h2; omega, Nat.le_refl _, fun h => by unfold tzA at h; omega, Nat.le_refl _⟩
  | n + 1, k => by
    unfold tzA
    by_cases e : m.testBit k = true
    · rw [if_pos e]
      obtain ⟨h1, h2, h3, h4⟩ := tzA_spec (m := m) n (k + 1)
      refine ⟨fun a k1 k2 => ?_, by omega, fun q => h3 (by omega), by omega⟩
      by_cases q : a = k
      · rw [q]; exact e
      · exact h1 a (by omega) k2
    · rw [if_neg e]
      exact ⟨fun a k1 k2 => by omega, Nat.le_refl _, fun _ => by simpa using e, by omega⟩
/-- the least worth that wasn't met -/
theorem tz_mex {l : List Nat} (h : ∀ v ∈ l, v < 10) : tzF (bitsL l) = mex l := by
  obtain ⟨h1, h2, h3, h4⟩ := tzA_spec (m := bitsL l) 10 0
  refine (mex_eq (fun q => ?_) fun a ha => ?_).symm
  · have := h3 (by have := h _ q; unfold tzF at this; omega)
    rw [bits_at] at this
    exact absurd q (of_decide_eq_false this)
  · have := h1 a (Nat.zero_le _) ha
    rw [bits_at] at this
    exact of_decide_eq_true this
section MM
variable {sc : ipSc} {d z b : Nat} {h : HP}
theorem t_ntz {m : Nat} (hm : m < 1024) : ipC sc (d + 1) 151 [.int (nI m ^^^ (-1))] h z 0 0 (qI (nI (tzF m)) h z) := by
  have e := tz_low ⟨m, hm⟩
  have e2 := tz_le ⟨m, hm⟩
  simp only at e e2
  refine ipC_mk [some (.int (nI m ^^^ (-1))), none] rfl (Nat.le_of_ble_eq_true rfl) ?_
  generalize tzF m = k at e e2
  match k, e, e2 with
  | 0, e, _ => exact b151_0 (fun r => absurd r (by rw [e]; decide)) (fun _ => by rw [e]; exact b151_12 ⟨congrArg (fun x => some (Value.int x)) (by decide), rfl, rfl⟩)
  | 1, e, _ => exact b151_0 (fun _ => by rw [e]; exact b151_17 (fun _ => b151_34 (fun _ => b151_49 (fun _ => b151_62 (fun _ => b151_74 ⟨congrArg (fun x => some (Value.int x)) (by decide), rfl, rfl⟩) (fun r => absurd (by decide) r)) (fun r => absurd (by decide) r)) (fun r => absurd (by decide) r)) (fun r => absurd (by decide) r)) (fun r => absurd (by rw [e]; decide) r)
  | 2, e, _ => exact b151_0 (fun _ => by rw [e]; exact b151_17 (fun _ => b151_34 (fun _ => b151_49 (fun _ => b151_62 (fun _ => b151_74 ⟨congrArg (fun x => some (Value.int x)) (by decide), rfl, rfl⟩) (fun r => absurd (by decide) r)) (fun r => absurd (by decide) r)) (fun r => absurd (by decide) r)) (fun r => absurd (by decide) r)) (fun r => absurd (by rw [e]; decide) r)
  | 3, e, _ => exact b151_0 (fun _ => by rw [e]; exact b151_17 (fun _ => b151_34 (fun _ => b151_49 (fun _ => b151_62 (fun r => absurd r (by decide)) (fun _ => b151_67 (b151_74 ⟨congrArg (fun x => some (Value.int x)) (by decide), rfl, rfl⟩))) (fun r => absurd (by decide) r)) (fun r => absurd (by decide) r)) (fun r => absurd (by decide) r)) (fun r => absurd (by rw [e]; decide) r)
  | 4, e, _ => exact b151_0 (fun _ => by rw [e]; exact b151_17 (fun _ => b151_34 (fun _ => b151_49 (fun _ => b151_62 (fun r => absurd r (by decide)) (fun _ => b151_67 (b151_74 ⟨congrArg (fun x => some (Value.int x)) (by decide), rfl, rfl⟩))) (fun r => absurd (by decide) r)) (fun r => absurd (by decide) r)) (fun r => absurd (by decide) r)) (fun r => absurd (by rw [e]; decide) r)
  | 5, e, _ => exact b151_0 (fun _ => by rw [e]; exact b151_17 (fun _ => b151_34 (fun _ => b151_49 (fun r => absurd r (by decide)) (fun _ => b151_55 (b151_62 (fun _ => b151_74 ⟨congrArg (fun x => some (Value.int x)) (by decide), rfl, rfl⟩) (fun r => absurd (by decide) r)))) (fun r => absurd (by decide) r)) (fun r => absurd (by decide) r)) (fun r => absurd (by rw [e]; decide) r)
  | 6, e, _ => exact b151_0 (fun _ => by rw [e]; exact b151_17 (fun _ => b151_34 (fun _ => b151_49 (fun r => absurd r (by decide)) (fun _ => b151_55 (b151_62 (fun _ => b151_74 ⟨congrArg (fun x => some (Value.int x)) (by decide), rfl, rfl⟩) (fun r => absurd (by decide) r)))) (fun r => absurd (by decide) r)) (fun r => absurd (by decide) r)) (fun r => absurd (by rw [e]; decide) r)
  | 7, e, _ => exact b151_0 (fun _ => by rw [e]; exact b151_17 (fun _ => b151_34 (fun _ => b151_49 (fun r => absurd r (by decide)) (fun _ => b151_55 (b151_62 (fun r => absurd r (by decide)) (fun _ => b151_67 (b151_74 ⟨congrArg (fun x => some (Value.int x)) (by decide), rfl, rfl⟩))))) (fun r => absurd (by decide) r)) (fun r => absurd (by decide) r)) (fun r => absurd (by rw [e]; decide) r)
  | 8, e, _ => exact b151_0 (fun _ => by rw [e]; exact b151_17 (fun _ => b151_34 (fun _ => b151_49 (fun r => absurd r (by decide)) (fun _ => b151_55 (b151_62 (fun r => absurd r (by decide)) (fun _ => b151_67 (b151_74 ⟨congrArg (fun x => some (Value.int x)) (by decide), rfl, rfl⟩))))) (fun r => absurd (by decide) r)) (fun r => absurd (by decide) r)) (fun r => absurd (by rw [e]; decide) r)
  | 9, e, _ => exact b151_0 (fun _ => by rw [e]; exact b151_17 (fun _ => b151_34 (fun r => absurd r (by decide)) (fun _ => b151_41 (b151_49 (fun _ => b151_62 (fun _ => b151_74 ⟨congrArg (fun x => some (Value.int x)) (by decide), rfl, rfl⟩) (fun r => absurd (by decide) r)) (fun r => absurd (by decide) r)))) (fun r => absurd (by decide) r)) (fun r => absurd (by rw [e]; decide) r)
  | 10, e, _ => exact b151_0 (fun _ => by rw [e]; exact b151_17 (fun _ => b151_34 (fun r => absurd r (by decide)) (fun _ => b151_41 (b151_49 (fun _ => b151_62 (fun _ => b151_74 ⟨congrArg (fun x => some (Value.int x)) (by decide), rfl, rfl⟩) (fun r => absurd (by decide) r)) (fun r => absurd (by decide) r)))) (fun r => absurd (by decide) r)) (fun r => absurd (by rw [e]; decide) r)
  | k + 11, _, e2 => exact absurd e2 (by omega)
theorem and_12 (x : Int32) : ∃ k, k < 4096 ∧ x &&& nI 4095 = nI k := by
  refine ⟨(x &&& nI 4095).toBitVec.toNat, ?_, ?_⟩
  · show (x.toBitVec &&& (nI 4095).toBitVec).toNat < 4096
    rw [BitVec.toNat_and]
    exact Nat.lt_of_le_of_lt Nat.and_le_right (by decide)
  · rw [← Int32.toBitVec_inj]
    show _ = BitVec.ofNat 32 _
    simp
def moA (h : HP) (b : Nat) (hi lo : Nat → Int64) (wo : Nat → Int32) : Prop := h b = some (.inr (1, [.ref (b + 1), .ref (b + 2), .ref (b + 3)])) ∧ h (b + 1) = some (.inl (1, 4096, .inr (.inl hi))) ∧ h (b + 2) = some (.inl (1, 4096, .inr (.inl lo))) ∧ h (b + 3) = some (.inl (2, 4096, .inl wo))
/-- what is kept is right -/
def moOK (V : Int64 → Int64 → Nat) (hi lo : Nat → Int64) (wo : Nat → Int32) : Prop := ∀ s, s < 4096 → wo s = 0 ∨ (wo s = nI (V (hi s) (lo s) + 1) ∧ V (hi s) (lo s) < 16)
def moIs (h : HP) (b : Nat) (V : Int64 → Int64 → Nat) : Prop := ∃ hi lo wo, moA h b hi lo wo ∧ moOK V hi lo wo
theorem t_slot {y1 y3 : Int64} {a : Nat} : ipC sc (d + 1) 7 [.ref b, .long y1, .long y3, .int (nI a)] h z 0 0 (fun o h2 z2 => h2 = h ∧ z2 = z ∧ ∃ k, k < 4096 ∧ o = some (.int (nI k))) := by
  refine ipC_mk [some (.ref b), some (.long y1), none, some (.long y3), none, some (.int (nI a)), none, none] rfl (Nat.le_of_ble_eq_true rfl) ?_
  refine c7_0 rfl ?_
  obtain ⟨k, hk, e⟩ := and_12 ((((((y1 * 31) + y3) * ((-7046029254386353131))).toUInt64 >>> ((nI 52).toInt64.toUInt64 &&& Int64.toUInt64 63)).toInt64).toInt32 + (nI a))
  exact ⟨rfl, rfl, k, hk, congrArg (fun x => some (Value.int x)) e⟩
theorem lcmp0 {x y : Int64} : lg_cmp x y = 0 ↔ x = y := by
  unfold lg_cmp
  constructor
  · intro h
    split at h
    · cases h
    · split at h
      · assumption
      · cases h
  · intro h
    subst h
    simp
variable {V : Int64 → Int64 → Nat} {y1 y3 : Int64}
theorem t_mfind (H : moIs h b V) : ipC sc (d + 2) 8 [.ref b, .long y1, .long y3] h z 0 0 (fun o h2 z2 => h2 = h ∧ z2 = z ∧ (o = some (.int (-1)) ∨ (o = some (.int (nI (V y1 y3))) ∧ V y1 y3 < 16))) := by
  obtain ⟨hi, lo, wo, ⟨g0, g1, g2, g3⟩, hok⟩ := H
  refine ipC_mk [some (.ref b), some (.long y1), none, some (.long y3), none, none, none] rfl (Nat.le_of_ble_eq_true rfl) (c8_0 rfl ?_)
  have loop : ∀ (m j : Nat) (o6 : Option Value), j + m = 8 → ip sc (ipC sc (d + 1)) 8 0 0 (fun o h2 z2 => h2 = h ∧ z2 = z ∧ (o = some (.int (-1)) ∨ (o = some (.int (nI (V y1 y3))) ∧ V y1 y3 < 16))) 3 [some (.ref b), some (.long y1), none, some (.long y3), none, some (.int (nI j)), o6] [] h z 0 0 := by
    intro m
    induction m with
    | zero =>
      intro j o6 hj
      exact c8_3 (by omega) (fun _ => c8_72 ⟨rfl, rfl, Or.inl rfl⟩) (fun r => absurd (by omega) r)
    | succ m ih =>
      intro j o6 hj
      refine c8_3 (by omega) (fun r => absurd r (by omega)) (fun _ => ?_)
      refine c8_10 g0 (Nat.zero_le _) (Nat.zero_le _) t_slot ?_
      rintro o h2 z2 ⟨rfl, rfl, s, hs, rfl⟩
      have nxt : ∀ o6, ip sc (ipC sc (d + 1)) 8 0 0 (fun o h3 z3 => h3 = h2 ∧ z3 = z2 ∧ (o = some (.int (-1)) ∨ (o = some (.int (nI (V y1 y3))) ∧ V y1 y3 < 16))) 66 [some (.ref b), some (.long y1), none, some (.long y3), none, some (.int (nI j)), o6] [] h2 z2 0 0 := fun o6 => c8_66 rfl (ih (j + 1) o6 (by omega))
      refine c8_18 g0 rfl g3 hs (by decide) rfl (fun r => ?_) (fun r => c8_30 ⟨rfl, rfl, Or.inl rfl⟩)
      refine c8_32 g0 rfl g1 hs (by decide) (fun _ => nxt _) (fun e1 => ?_)
      refine c8_44 g0 rfl g2 hs (by decide) (fun _ => nxt _) (fun e2 => ?_)
      have e1 := lcmp0.mp (Decidable.not_not.mp e1)
      have e2 := lcmp0.mp (Decidable.not_not.mp e2)
      rcases hok s hs with q | ⟨q1, q2⟩
      · exact absurd q r
      · rw [e1, e2] at q1 q2
        refine c8_56 g0 rfl g3 hs (by decide) q1 ⟨rfl, rfl, Or.inr ⟨?_, q2⟩⟩
        congr 2
        rw [← nI_1]
        show nI (V y1 y3) + 1 - 1 = _
        rw [Int32.add_sub_cancel]
  exact loop 8 0 none (by omega)
theorem t_mkeep (H : moIs h b V) (hV : V y1 y3 < 16) : ipC sc (d + 2) 9 [.ref b, .long y1, .long y3, .int (nI (V y1 y3))] h z 0 0 (fun o h2 z2 => o = none ∧ z2 = z ∧ frm b 4 h h2 ∧ moIs h2 b V) := by
  obtain ⟨hi, lo, wo, ⟨g0, g1, g2, g3⟩, hok⟩ := H
  refine ipC_mk [some (.ref b), some (.long y1), none, some (.long y3), none, some (.int (nI (V y1 y3))), none, none, none] rfl (Nat.le_of_ble_eq_true rfl) ?_
  refine c9_0 g0 (Nat.zero_le _) (Nat.zero_le _) t_slot ?_
  rintro o h2 z2 ⟨rfl, rfl, s0, hs0, rfl⟩
  refine c9_7 ?_
  have fin : ∀ (s : Nat) (o7 o8 : Option Value), s < 4096 → ip sc (ipC sc (d + 1)) 9 0 0 (fun o h3 z3 => o = none ∧ z3 = z2 ∧ frm b 4 h2 h3 ∧ moIs h3 b V) 48 [some (.ref b), some (.long y1), none, some (.long y3), none, some (.int (nI (V y1 y3))), some (.int (nI s)), o7, o8] [] h2 z2 0 0 := by
    intro s o7 o8 hs
    refine c9_48 g0 rfl g1 hs (by decide) rfl (by omega) rfl g2 (by omega) hs (by decide) rfl (by omega) rfl g3 (by omega) (by omega) hs (by decide) rfl ⟨rfl, rfl, ((frm.rf.up (by omega)).up (by omega)).up (by omega), vp_updL hi s y1, vp_updL lo s y3, upd wo s (nI (V y1 y3 + 1)), ⟨?_, ?_, ?_, ?_⟩, fun a ha => ?_⟩
    · exact hup_ne (by omega) (hup_ne (by omega) (hup_ne (by omega) g0))
    · exact hup_ne (by omega) (hup_ne (by omega) hup_eq)
    · exact hup_ne (by omega) hup_eq
    · rw [byte_id _ (by omega)]
      exact hup_eq
    · by_cases e : a = s
      · subst e
        right
        rw [pk_uLs, pk_uLs, pk_us]
        exact ⟨rfl, hV⟩
      · rw [pk_uLn e, pk_uLn e, pk_un e]
        exact hok a ha
  have loop : ∀ (j s : Nat) (o8 : Option Value), j ≤ 7 → s < 4096 → ip sc (ipC sc (d + 1)) 9 0 0 (fun o h3 z3 => o = none ∧ z3 = z2 ∧ frm b 4 h2 h3 ∧ moIs h3 b V) 13 [some (.ref b), some (.long y1), none, some (.long y3), none, some (.int (nI (V y1 y3))), some (.int (nI s)), some (.int (nI j)), o8] [] h2 z2 0 0 := by
    intro j
    induction j with
    | zero =>
      intro s o8 hj hs
      refine c9_13 (by omega) (fun r => absurd r (by omega)) (fun _ => ?_)
      refine c9_18 g0 (Nat.zero_le _) (Nat.zero_le _) t_slot ?_
      rintro o h3 z3 ⟨rfl, rfl, s3, hs3, rfl⟩
      have last : ∀ (s : Nat) (o8 : Option Value), s < 4096 → ip sc (ipC sc (d + 1)) 9 0 0 (fun o h4 z4 => o = none ∧ z4 = z3 ∧ frm b 4 h3 h4 ∧ moIs h4 b V) 42 [some (.ref b), some (.long y1), none, some (.long y3), none, some (.int (nI (V y1 y3))), some (.int (nI s)), some (.int (nI 0)), o8] [] h3 z3 0 0 := fun s o8 hs => by
        refine b9_42 ?_
        exact b9_13 (fun _ => fin s _ _ hs) (fun r => absurd (by decide) r)
      refine c9_26 g0 rfl g3 hs3 (by decide) rfl (fun _ => last s _ hs) (fun _ => c9_38 (last s3 _ hs3))
    | succ j ih =>
      intro s o8 hj hs
      refine c9_13 (by omega) (fun r => absurd r (by omega)) (fun _ => ?_)
      refine c9_18 g0 (Nat.zero_le _) (Nat.zero_le _) t_slot ?_
      rintro o h3 z3 ⟨rfl, rfl, s3, hs3, rfl⟩
      exact c9_26 g0 rfl g3 hs3 (by decide) rfl (fun _ => c9_42 (by omega) (ih s _ (by omega) hs)) (fun _ => c9_38 (c9_42 (by omega) (ih s3 _ (by omega) hs3)))
  exact loop 7 s0 none (by omega) hs0
end MM
