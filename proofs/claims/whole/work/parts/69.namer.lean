/-! the class's Namer: takeFields, signByKind -/
def nFs (b pt nr wc : Nat) (hi lo : Int64) : List Value := [.ref pt, .ref (b + 1), .ref (b + 2), .ref (b + 3), .ref (b + 4), .ref (b + 5), .ref (b + 6), .ref (b + 7), .ref (b + 8), .int (nI nr), .int (nI wc), .long hi, .long lo]
def nmA (h : HP) (b pt : Nat) (sg fr wr : Nat → Int32) (tx : Nat → Int64) (so tu wk en : Nat → Int32) (nr wc : Nat) (hi lo : Int64) : Prop := h b = some (.inr (3, nFs b pt nr wc hi lo)) ∧ h (b + 1) = some (.inl (0, 31, .inl sg)) ∧ h (b + 2) = some (.inl (0, 24, .inl fr)) ∧ h (b + 3) = some (.inl (0, 62, .inl wr)) ∧ h (b + 4) = some (.inl (1, 62, .inr (.inl tx))) ∧ h (b + 5) = some (.inl (0, 62, .inl so)) ∧ h (b + 6) = some (.inl (0, 24, .inl tu)) ∧ h (b + 7) = some (.inl (0, 100, .inl wk)) ∧ h (b + 8) = some (.inl (0, 100, .inl en))
theorem nI_all (x : Int32) : ∃ n, x = nI n := ⟨x.toBitVec.toNat, by rw [← Int32.toBitVec_inj]; show _ = BitVec.ofNat 32 _; simp⟩
/-- the fields of a set, in their order -/
def flM (w : Nat) : Nat → List Nat
  | 0 => []
  | n + 1 => if w.testBit n = true then flM w n ++ [n] else flM w n
theorem flM_mem {w f : Nat} : ∀ {n}, f ∈ flM w n ↔ f < n ∧ w.testBit f = true
  | 0 => by simp [flM]
  | n + 1 => by
    unfold flM
    split
    · rw [List.mem_append, flM_mem, List.mem_singleton]
      constructor
      · rintro (⟨h1, h2⟩ | rfl)
        · exact ⟨by omega, h2⟩
        · exact ⟨by omega, by assumption⟩
      · rintro ⟨h1, h2⟩
        by_cases e : f = n
        · exact Or.inr e
        · exact Or.inl ⟨by omega, h2⟩
    · rw [flM_mem]
      constructor
      · rintro ⟨h1, h2⟩
        exact ⟨by omega, h2⟩
      · rintro ⟨h1, h2⟩
        by_cases e : f = n
        · subst e
          contradiction
        · exact ⟨by omega, h2⟩
theorem flM_len {w : Nat} : ∀ {n}, (flM w n).length ≤ n
  | 0 => Nat.le_refl _
  | n + 1 => by
    have := flM_len (w := w) (n := n)
    unfold flM
    split
    · simp; omega
    · omega
theorem flM_nodup {w : Nat} : ∀ {n}, (flM w n).Nodup
  | 0 => List.nodup_nil
  | n + 1 => by
    have := flM_nodup (w := w) (n := n)
    unfold flM
    split
    · rw [List.nodup_append]
      refine ⟨this, by simp, fun a ha b hb q => ?_⟩
      have h1 := (flM_mem.mp ha).1
      have h2 := List.mem_singleton.mp hb
      omega
    · exact this
def rowA (a : Nat → Int32) (off : Nat) (l : List Nat) : Prop := rowL a off l
section NM
variable {sc : ipSc} {d z b pt q le pc nr wc : Nat} {h : HP} {P : PosT} {sg fr wr so tu wk en : Nat → Int32} {tx : Nat → Int64} {hi lo : Int64}
def nmQ (h : HP) (b z : Nat) (R : HP → Prop) : ipQ := fun o h2 z2 => o = none ∧ z2 = z ∧ frm b 9 h h2 ∧ R h2
theorem t_takeFields (H : nmA h b pt sg fr wr tx so tu wk en nr wc hi lo) (HQ : plIs h q le pc P) (hd : q + 5 ≤ b ∨ b + 9 ≤ q) {w : Nat} (hw : w < 2 ^ 24) : ipC sc (d + 1) 16 [.ref b, .ref q, .int (nI w)] h z 0 0 (nmQ h b z (fun h2 => ∃ fr2, nmA h2 b pt sg fr2 wr tx so tu wk en (flM w P.2.length).length wc hi lo ∧ rowL fr2 0 (flM w P.2.length))) := by
  obtain ⟨-, sa, wf, ff, lf, hps, r1, r2, r3, r4, k1, k2, k3, k4⟩ := id HQ
  simp only at k3
  have hob := HQ.ob
  refine ipC_mk [some (.ref b), some (.ref q), some (.int (nI w)), none] rfl (Nat.le_of_ble_eq_true rfl) ?_
  have loop : ∀ (m f : Nat) (h3 : HP) (fr : Nat → Int32), f + m = P.2.length → frm b 9 h h3 → nmA h3 b pt sg fr wr tx so tu wk en (flM w f).length wc hi lo → rowL fr 0 (flM w f) → ip sc (ipC sc d) 16 0 0 (nmQ h b z (fun h2 => ∃ fr2, nmA h2 b pt sg fr2 wr tx so tu wk en (flM w P.2.length).length wc hi lo ∧ rowL fr2 0 (flM w P.2.length))) 7 [some (.ref b), some (.ref q), some (.int (nI w)), some (.int (nI f))] [] h3 z 0 0 := by
    intro m
    induction m with
    | zero =>
      intro f h3 fr hf hf3 H3 hr
      have hob3 := hob
      rw [← hf3 q (by omega)] at hob3
      refine c16_7 (v_fs1_7 := P.2.length) hob3 rfl (by omega) (by omega) (fun _ => c16_50 ⟨rfl, rfl, hf3, fr, ?_, ?_⟩) (fun r => absurd (by omega) r)
      · rw [← show f = P.2.length by omega]; exact H3
      · rw [← show f = P.2.length by omega]; exact hr
    | succ m ih =>
      intro f h3 fr hf hf3 H3 hr
      have hob3 := hob
      rw [← hf3 q (by omega)] at hob3
      refine c16_7 (v_fs1_7 := P.2.length) hob3 rfl (by omega) (by omega) (fun r => absurd r (by omega)) (fun _ => ?_)
      have hbit : ((((nI w) >>> ((nI f) &&& 31)) &&& (nI 1)) = (nI 1)) ↔ w.testBit f = true := by
        rw [bitN (by omega) (by omega), ← bit_mod]
        have : w / 2 ^ f % 2 < 2 := Nat.mod_lt _ (by decide)
        exact ⟨fun q => (nI_eq (by omega) (by omega)).mp q, fun q => by rw [q]⟩
      refine c16_15 (fun e => c16_44 (ih (f + 1) h3 fr (by omega) hf3 ?_ ?_)) (fun e => ?_)
      · have : flM w (f + 1) = flM w f := by
          show (if _ then _ else _) = _
          rw [if_neg fun q => e (hbit.mpr q)]
        rw [this]; exact H3
      · have : flM w (f + 1) = flM w f := by
          show (if _ then _ else _) = _
          rw [if_neg fun q => e (hbit.mpr q)]
        rw [this]; exact hr
      · have ef : flM w (f + 1) = flM w f ++ [f] := by
          show (if _ then _ else _) = _
          rw [if_pos (hbit.mp (Decidable.not_not.mp e))]
        have hfl := flM_len (w := w) (n := f)
        obtain ⟨g0, g1, g2, g3, g4, g5, g6, g7, g8⟩ := id H3
        refine c16_24 (v_fs1_9 := (flM w f).length) g0 rfl rfl g2 (by omega) (by decide) rfl (by omega) rfl (c16_44 (ih (f + 1) _ (upd fr (flM w f).length (nI f)) (by omega) ((hf3.up (by omega)).up (by omega)) ?_ ?_))
        · rw [ef, List.length_append]
          exact ⟨hup_eq, hup_ne (by omega) (hup_ne (by omega) g1), hup_ne (by omega) hup_eq, hup_ne (by omega) (hup_ne (by omega) g3), hup_ne (by omega) (hup_ne (by omega) g4), hup_ne (by omega) (hup_ne (by omega) g5), hup_ne (by omega) (hup_ne (by omega) g6), hup_ne (by omega) (hup_ne (by omega) g7), hup_ne (by omega) (hup_ne (by omega) g8)⟩
        · rw [ef]
          exact rowL_app hr (by rw [Nat.zero_add])
  obtain ⟨g0, g1, g2, g3, g4, g5, g6, g7, g8⟩ := id H
  refine c16_0 g0 rfl (loop P.2.length 0 _ fr (by omega) (frm.rf.up (by omega)) ⟨hup_eq, hup_ne (by omega) g1, hup_ne (by omega) g2, hup_ne (by omega) g3, hup_ne (by omega) g4, hup_ne (by omega) g5, hup_ne (by omega) g6, hup_ne (by omega) g7, hup_ne (by omega) g8⟩ rowL_nil)
/-- the kinds of spots that need no letter -/
def kdN (l t : Nat) : Nat := if l = 3 then 1 else if l = 2 then 2 else if t < 2 then 3 else 0
/-- a spot's sign tells its kind -/
def sgOK (L : List Nat) (tN : Nat → Nat) (sg : Nat → Int32) : Prop := ∀ a, a < L.length → ∃ s, sg a = nI s ∧ s < 16 ∧ (kdN (L.getD a 0) (tN a) = 0 → 4 ≤ s) ∧ (kdN (L.getD a 0) (tN a) ≠ 0 → s = kdN (L.getD a 0) (tN a))
theorem t_paired {fl : Int32} {tm fi la lk : Nat → Int32} (H : ptA h b fl tm fi la lk) {a : Nat} (ha : a < 31) : ipC sc (d + 1) 32 [.ref b, .int (nI a)] h z 0 0 (fun o h2 z2 => h2 = h ∧ z2 = z ∧ (o = some (.int (nI 0)) ∨ o = some (.int (nI 1)))) := by
  obtain ⟨g0, g1, g2, g3, g4⟩ := H
  have cl : (nI a).toNatClampNeg = a := nI_clamp (by omega)
  refine ipC_mk [some (.ref b), some (.int (nI a))] rfl (Nat.le_of_ble_eq_true rfl) ?_
  refine b32_0 g0 rfl g1 (vp_in_nI ha (by decide)) (fun _ => c32_29 (c32_30 rfl ⟨rfl, rfl, Or.inl rfl⟩)) (fun _ => ?_)
  exact b32_10 g0 rfl g2 (vp_in_nI ha (by decide)) rfl g3 (vp_in_nI ha (by decide)) (fun _ => c32_29 (c32_30 rfl ⟨rfl, rfl, Or.inl rfl⟩)) (fun _ => c32_25 (c32_30 rfl ⟨rfl, rfl, Or.inr rfl⟩))
set_option maxHeartbeats 1000000 in
theorem t_signByKind {fl : Int32} {tm fi la lk : Nat → Int32} {tN : Nat → Nat} (H : nmA h b pt sg fr wr tx so tu wk en nr wc hi lo) (HT : ptA h pt fl tm fi la lk) (hdt : pt + 5 ≤ b ∨ b + 9 ≤ pt) (ht : ∀ a, a < P.1.length → tm a = nI (tN a) ∧ tN a < 200) (HQ : plIs h q le pc P) (hok : posOK P) (hd : q + 5 ≤ b ∨ b + 9 ≤ q) : ipC sc (d + 2) 17 [.ref b, .ref q] h z 0 0 (nmQ h b z (fun h2 => ∃ sg2, nmA h2 b pt sg2 fr wr tx so tu wk en nr wc hi lo ∧ sgOK P.1 tN sg2)) := by
  obtain ⟨-, sa, wf, ff, lf, hps, r1, r2, r3, r4, k1, k2, k3, k4⟩ := id HQ
  simp only at k4 r1
  obtain ⟨p1, p2, p3, p4, p5⟩ := hps
  refine ipC_mk [some (.ref b), some (.ref q), none] rfl (Nat.le_of_ble_eq_true rfl) (c17_0 ?_)
  have loop : ∀ (m a : Nat) (h3 : HP) (sg : Nat → Int32), a + m = P.1.length → frm b 9 h h3 → nmA h3 b pt sg fr wr tx so tu wk en nr wc hi lo → (∀ x, x < a → ∃ s, sg x = nI s ∧ s < 16 ∧ (kdN (P.1.getD x 0) (tN x) = 0 → 4 ≤ s) ∧ (kdN (P.1.getD x 0) (tN x) ≠ 0 → s = kdN (P.1.getD x 0) (tN x))) → ip sc (ipC sc (d + 1)) 17 0 0 (nmQ h b z (fun h2 => ∃ sg2, nmA h2 b pt sg2 fr wr tx so tu wk en nr wc hi lo ∧ sgOK P.1 tN sg2)) 2 [some (.ref b), some (.ref q), some (.int (nI a))] [] h3 z 0 0 := by
    intro m
    induction m with
    | zero =>
      intro a h3 sg ha hf3 H3 hs
      have q1 : h3 q = _ := (hf3 q (by omega)).trans p1
      exact c17_2 (v_fs1_8 := P.1.length) q1 rfl (by omega) (by omega) (fun _ => c17_95 ⟨rfl, rfl, hf3, sg, H3, fun x hx => hs x (by omega)⟩) (fun r => absurd (by omega) r)
    | succ m ih =>
      intro a h3 sg ha hf3 H3 hs
      have q1 : h3 q = _ := (hf3 q (by omega)).trans p1
      have q5 : h3 (q + 4) = _ := (hf3 (q + 4) (by omega)).trans p5
      have hal : a < P.1.length := by omega
      have hla := rowL_at r1 (gD (d := 0) hal)
      have hl3 := posOK_le hok a
      obtain ⟨g0, g1, g2, g3, g4, g5, g6, g7, g8⟩ := id H3
      obtain ⟨t0, t1, t2, t3, t4⟩ := id HT
      have T3 : ptA h3 pt fl tm fi la lk := ⟨by rw [hf3 _ (by omega)]; exact t0, by rw [hf3 _ (by omega)]; exact t1, by rw [hf3 _ (by omega)]; exact t2, by rw [hf3 _ (by omega)]; exact t3, by rw [hf3 _ (by omega)]; exact t4⟩
      obtain ⟨e1, e2⟩ := ht a hal
      -- behind the sign
      have nxt : ∀ s, s < 16 → (kdN (P.1.getD a 0) (tN a) = 0 → 4 ≤ s) → (kdN (P.1.getD a 0) (tN a) ≠ 0 → s = kdN (P.1.getD a 0) (tN a)) → ip sc (ipC sc (d + 1)) 17 0 0 (nmQ h b z (fun h2 => ∃ sg2, nmA h2 b pt sg2 fr wr tx so tu wk en nr wc hi lo ∧ sgOK P.1 tN sg2)) 89 [some (.ref b), some (.ref q), some (.int (nI a))] [] (hup h3 (b + 1) (.inl (0, 31, .inl (upd sg a (nI s))))) z 0 0 := fun s h16 z1 z2 => by
        refine c17_89 (ih (a + 1) _ (upd sg a (nI s)) (by omega) (hf3.up (by omega)) ⟨hup_ne (by omega) g0, hup_eq, hup_ne (by omega) g2, hup_ne (by omega) g3, hup_ne (by omega) g4, hup_ne (by omega) g5, hup_ne (by omega) g6, hup_ne (by omega) g7, hup_ne (by omega) g8⟩ fun x hx => ?_)
        by_cases e : x = a
        · subst e
          exact ⟨s, pk_us, h16, z1, z2⟩
        · obtain ⟨s2, y1, y2⟩ := hs x (by omega)
          exact ⟨s2, by rw [pk_un e]; exact y1, y2⟩
      refine c17_2 (v_fs1_8 := P.1.length) q1 rfl (by omega) (by omega) (fun r => absurd r (by omega)) (fun _ => ?_)
      refine c17_10 q1 rfl q5 (by omega) (by decide) hla (by omega) (fun r => ?_) (fun r => ?_)
      · refine c17_44 g0 rfl T3.1 rfl T3.2.1 (by omega) (by decide) e1 (by omega) (fun r2 => ?_) (fun r2 => ?_)
        · have hk : kdN (P.1.getD a 0) (tN a) = 0 := by
            unfold kdN
            rw [if_neg (by omega), if_neg (by omega), if_neg (by omega)]
          refine c17_67 g0 rfl rfl T3.1 (Nat.zero_le _) (Nat.zero_le _) (t_paired T3 (by omega)) ?_
          rintro o h4 z4 ⟨rfl, rfl, rfl | rfl⟩
          · exact c17_80 (by omega) (fun _ => c17_87 (c17_88 g1 (by omega) (by decide) rfl (nxt 5 (by omega) (fun _ => by omega) (fun q => absurd hk q)))) (fun r => absurd rfl r)
          · exact c17_80 (by omega) (fun r => absurd r (by omega)) (fun _ => c17_83 (c17_88 g1 (by omega) (by decide) rfl (nxt 4 (by omega) (fun _ => by omega) (fun q => absurd hk q))))
        · have hk : kdN (P.1.getD a 0) (tN a) = 3 := by
            unfold kdN
            rw [if_neg (by omega), if_neg (by omega), if_pos (by omega)]
          exact c17_57 g0 rfl g1 (by omega) (by decide) rfl (nxt 3 (by omega) (fun q => by omega) (fun _ => hk.symm))
      · refine c17_20 g0 rfl q1 rfl q5 (by omega) (by decide) hla (by omega) (fun r2 => ?_) (fun r2 => ?_)
        · have hk : kdN (P.1.getD a 0) (tN a) = 2 := by
            unfold kdN
            rw [if_neg r2, if_pos (by omega)]
          exact c17_39 (c17_40 g1 (by omega) (by decide) rfl (nxt 2 (by omega) (fun q => by omega) (fun _ => hk.symm)))
        · have hk : kdN (P.1.getD a 0) (tN a) = 1 := by
            unfold kdN
            rw [if_pos (Decidable.not_not.mp r2)]
          exact c17_35 (c17_40 g1 (by omega) (by decide) rfl (nxt 1 (by omega) (fun q => by omega) (fun _ => hk.symm)))
  exact loop P.1.length 0 h sg (by omega) frm.rf H fun x hx => absurd hx (Nat.not_lt_zero _)
end NM
