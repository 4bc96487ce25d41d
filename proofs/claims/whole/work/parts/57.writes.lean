/-! the reference's writes, placeOf -/
section REF
variable {sc : ipSc} {d z M p : Nat} {h : HP} {kn ms kz : Int32} {t : Cur} {al : Nat → Int32} {P : PosT}
def wrQ (h : HP) (M z : Nat) (kn : Int32) (t : Cur) (ms : Int32) (T : List Int32) : ipQ := fun o h2 z2 => o = none ∧ z2 = z ∧ ∃ ky, h2 = mK h M kn t ms ky T.length ∧ kyIs ky T
set_option maxHeartbeats 1000000 in
theorem t_writes (H : mdA h M (mFs M kn t ms kz) al) {ky0 : Nat → Int32} (Hk : h (M + 8) = some (.inl (2, 72, .inl ky0))) (HR : rowIs al p P) (hp : p + 332 ≤ 52000) (ht : tiny P) (hok : posOK P) : ipC sc (d + 2) 140 [.ref M, .int (nI p)] h z 0 0 (wrQ h M z kn t ms (txt P)) := by
  have hB := HR.2.2.2.2.2
  have b1 := hB.1
  have b2 := hB.2.1
  have b3 := hB.2.2.1
  have b4 := hB.2.2.2
  have hW : P.2.flatten.length = (pW P).length := rfl
  have hC : (pW P).flatten.length = (pC P).length := rfl
  have H2 : ∀ (ky : Nat → Int32) (n : Nat), mdA (mK h M kn t ms ky n) M (mFs M kn t ms (nI n)) al := fun ky n => mK_al H
  generalize hQ : wrQ h M z kn t ms (txt P) = Q0
  refine ipC_mk [some (.ref M), some (.int (nI p)), none, none, none, none, none] rfl (Nat.le_of_ble_eq_true rfl) ?_
  have loopI : ∀ (m i f k w : Nat) (x : List Nat) (T : List Int32) (ky : Nat → Int32), (pW P)[w]? = some x → f < 32 → i + m = x.length → kyIs ky T → T.length ≤ f + w + 2 + lSt (pW P) w + i → (∀ ky2, kyIs ky2 (T ++ (x.drop i).map (cdT P.1)) → ∀ o6, ip sc (ipC sc (d + 1)) 140 0 0 Q0 122 [some (.ref M), some (.int (nI p)), some (.int (nI w)), some (.int (nI (p + 132 + lSt (pW P) w))), some (.int (nI f)), some (.int (nI k)), o6] [] (mK h M kn t ms ky2 (T ++ (x.drop i).map (cdT P.1)).length) z 0 0) → ip sc (ipC sc (d + 1)) 140 0 0 Q0 66 [some (.ref M), some (.int (nI p)), some (.int (nI w)), some (.int (nI (p + 132 + lSt (pW P) w))), some (.int (nI f)), some (.int (nI k)), some (.int (nI i))] [] (mK h M kn t ms ky T.length) z 0 0 := by
    intro m
    induction m with
    | zero =>
      intro i f k w x T ky hwx hf him hk hT K
      have hxl := wall_len hB hwx
      have hwl := lt_some hwx
      refine c140_66 (H2 _ _).1 rfl (H2 _ _).2.2 (by omega) (by decide) (HR.wl hwx) (by omega) (by omega) (fun _ => ?_) (fun r => absurd (by omega) r)
      have e : x.drop i = [] := List.drop_eq_nil_of_le (by omega)
      rw [e, List.map_nil, List.append_nil] at K
      exact K ky hk _
    | succ m ih =>
      intro i f k w x T ky hwx hf him hk hT K
      have hxl := wall_len hB hwx
      have hwl := lt_some hwx
      obtain ⟨y, hy⟩ := gt_some (l := x) (i := i) (by omega)
      have hco : (pC P)[lSt (pW P) w + i]? = some y := lSt_at hwx hy
      have hcl := lt_some hco
      have hyC := List.mem_of_getElem? hco
      have hyl := hok.1 y hyC
      have hlt := ht.lt hyC
      have hca : al (p + 132 + lSt (pW P) w + i) = nI y := by rw [Nat.add_assoc (p + 132)]; exact HR.co hco
      refine c140_66 (H2 _ _).1 rfl (H2 _ _).2.2 (by omega) (by decide) (HR.wl hwx) (by omega) (by omega) (fun r => absurd r (by omega)) (fun _ => ?_)
      refine c140_82 (H2 _ _).1 rfl (H2 _ _).2.2 (by omega) (by decide) hca (by omega) (HR.li (gD (d := 0) hyl)) (Nat.zero_le _) (Nat.zero_le _) (t_kput hk (by omega) (byte_id _ hlt)) ?_
      rintro o h2 z2 ⟨rfl, rfl, ky2, rfl, hk2⟩
      refine c140_116 (ih (i + 1) f k w x (T ++ [nI (4 * y + P.1.getD y 0)]) ky2 hwx hf (by omega) hk2 (by rw [List.length_append]; show T.length + 1 ≤ _; omega) ?_)
      have e : T ++ (x.drop i).map (cdT P.1) = (T ++ [nI (4 * y + P.1.getD y 0)]) ++ (x.drop (i + 1)).map (cdT P.1) := by
        rw [drop_cons hy]
        simp [cdT]
      rw [e] at K
      exact K
  have loopK : ∀ (m f k : Nat) (Fd : List (List Nat)) (T : List Int32) (ky : Nat → Int32), P.2[f]? = some Fd → k + m = Fd.length → kyIs ky T → T.length ≤ f + (lSt P.2 f + k) + 1 + lSt (pW P) (lSt P.2 f + k) → (∀ ky2, kyIs ky2 (T ++ ((Fd.drop k).map (wT P.1)).flatten) → (T ++ ((Fd.drop k).map (wT P.1)).flatten).length ≤ f + (lSt P.2 f + Fd.length) + 1 + lSt (pW P) (lSt P.2 f + Fd.length) → ∀ o5 o6, ip sc (ipC sc (d + 1)) 140 0 0 Q0 145 [some (.ref M), some (.int (nI p)), some (.int (nI (lSt P.2 f + Fd.length))), some (.int (nI (p + 132 + lSt (pW P) (lSt P.2 f + Fd.length)))), some (.int (nI f)), o5, o6] [] (mK h M kn t ms ky2 (T ++ ((Fd.drop k).map (wT P.1)).flatten).length) z 0 0) → ∀ o6, ip sc (ipC sc (d + 1)) 140 0 0 Q0 39 [some (.ref M), some (.int (nI p)), some (.int (nI (lSt P.2 f + k))), some (.int (nI (p + 132 + lSt (pW P) (lSt P.2 f + k)))), some (.int (nI f)), some (.int (nI k)), o6] [] (mK h M kn t ms ky T.length) z 0 0 := by
    intro m
    induction m with
    | zero =>
      intro f k Fd T ky hf hkm hk hT K o6
      have hfl := lt_some hf
      have hFl : Fd.length ≤ 64 := by have := lSt_s hf; have := lSt_le (l := P.2) (f := f + 1); omega
      refine c140_39 (H2 _ _).1 rfl (H2 _ _).2.2 (by omega) (by decide) (HR.fl hf) (by omega) (by omega) (fun _ => ?_) (fun r => absurd (by omega) r)
      have e : Fd.drop k = [] := List.drop_eq_nil_of_le (by omega)
      have ek : k = Fd.length := by omega
      rw [e, List.map_nil, List.flatten_nil, List.append_nil] at K
      rw [ek]
      exact K ky hk (by rw [← ek]; exact hT) _ _
    | succ m ih =>
      intro f k Fd T ky hf hkm hk hT K o6
      have hfl := lt_some hf
      have hFl : Fd.length ≤ 64 := by have := lSt_s hf; have := lSt_le (l := P.2) (f := f + 1); omega
      obtain ⟨x, hx⟩ := gt_some (l := Fd) (i := k) (by omega)
      have hwx : (pW P)[lSt P.2 f + k]? = some x := lSt_at hf hx
      have hwl := lt_some hwx
      have hxl := wall_len hB hwx
      have e1 : lSt (pW P) (lSt P.2 f + (k + 1)) = lSt (pW P) (lSt P.2 f + k) + x.length := lSt_s hwx
      have e3 := lSt_le (l := pW P) (f := lSt P.2 f + (k + 1))
      refine c140_39 (H2 _ _).1 rfl (H2 _ _).2.2 (by omega) (by decide) (HR.fl hf) (by omega) (by omega) (fun r => absurd r (by omega)) (fun _ => ?_)
      refine c140_56 (H2 _ _).1 (Nat.zero_le _) (Nat.zero_le _) (t_kput hk (by omega) byte_254) ?_
      rintro o h2 z2 ⟨rfl, rfl, ky2, rfl, hk2⟩
      refine c140_63 (loopI x.length 0 f k (lSt P.2 f + k) x (T ++ [-2]) ky2 hwx (by omega) (by omega) hk2 (by rw [List.length_append]; show T.length + 1 ≤ _; omega) (fun ky3 hk3 o6 => ?_))
      rw [List.drop_zero] at hk3 ⊢
      refine c140_122 (H2 _ _).1 rfl (H2 _ _).2.2 (by omega) (by decide) (HR.wl hwx) ?_
      have e : T ++ ((Fd.drop k).map (wT P.1)).flatten = ((T ++ [-2]) ++ x.map (cdT P.1)) ++ ((Fd.drop (k + 1)).map (wT P.1)).flatten := by
        rw [drop_cons hx]
        simp [wT]
      rw [e] at K
      have := ih f (k + 1) Fd _ ky3 hf (by omega) hk3 (by
        rw [List.length_append, List.length_append, List.length_map]
        show T.length + 1 + x.length ≤ _
        omega) K o6
      rw [e1, ← Nat.add_assoc (p + 132)] at this
      exact this
  have loopF : ∀ (m f : Nat) (T : List Int32) (ky : Nat → Int32), f + m = P.2.length → kyIs ky T → T.length ≤ f + lSt P.2 f + lSt (pW P) (lSt P.2 f) → T ++ ((P.2.drop f).map (fT P.1)).flatten = txt P → ∀ o5 o6, ip sc (ipC sc (d + 1)) 140 0 0 Q0 16 [some (.ref M), some (.int (nI p)), some (.int (nI (lSt P.2 f))), some (.int (nI (p + 132 + lSt (pW P) (lSt P.2 f)))), some (.int (nI f)), o5, o6] [] (mK h M kn t ms ky T.length) z 0 0 := by
    intro m
    induction m with
    | zero =>
      intro f T ky hfm hk hT hE o5 o6
      refine c140_16 (H2 _ _).1 rfl (H2 _ _).2.2 (by omega) (by decide) (v9 := P.2.length) HR.1.2.1 (by omega) (by omega) (fun _ => c140_151 ?_) (fun r => absurd (by omega) r)
      have e : P.2.drop f = [] := List.drop_eq_nil_of_le (by omega)
      rw [e, List.map_nil, List.flatten_nil, List.append_nil] at hE
      rw [← hQ, ← hE]
      exact ⟨rfl, rfl, ky, rfl, hk⟩
    | succ m ih =>
      intro f T ky hfm hk hT hE o5 o6
      obtain ⟨Fd, hf⟩ := gt_some (l := P.2) (i := f) (by omega)
      have hls : lSt P.2 (f + 1) = lSt P.2 f + Fd.length := lSt_s hf
      have e2 := lSt_le (l := P.2) (f := f + 1)
      have e3 := lSt_le (l := pW P) (f := lSt P.2 f)
      refine c140_16 (H2 _ _).1 rfl (H2 _ _).2.2 (by omega) (by decide) (v9 := P.2.length) HR.1.2.1 (by omega) (by omega) (fun r => absurd r (by omega)) (fun _ => ?_)
      refine c140_29 (H2 _ _).1 (Nat.zero_le _) (Nat.zero_le _) (t_kput hk (by omega) byte_255) ?_
      rintro o h2 z2 ⟨rfl, rfl, ky2, rfl, hk2⟩
      refine c140_36 (loopK Fd.length f 0 Fd (T ++ [-1]) ky2 hf (by omega) hk2 (by rw [List.length_append]; show T.length + 1 ≤ _; simp only [Nat.add_zero]; omega) (fun ky3 hk3 hT3 o5 o6 => c140_145 ?_) _)
      rw [List.drop_zero] at hk3 hT3 ⊢
      have := ih (f + 1) _ ky3 (by omega) hk3 (by rw [hls]; omega) (by
        rw [← hE, drop_cons hf]
        simp [fT]) o5 o6
      rw [hls] at this
      exact this
  have := loopF P.2.length 0 [] ky0 (by omega) (fun k v _ e => (by cases e)) (Nat.zero_le _) (by rw [List.drop_zero]; rfl) none none
  rw [lSt_0, lSt_0, Nat.add_zero] at this
  refine c140_0 H.1 rfl ?_
  have em : hup h M (.inr (9, (mFs M kn t ms kz).set 15 (.int (nI 0)))) = mK h M kn t ms ky0 0 := by
    show hup h M (.inr (9, mFs M kn t ms (nI 0))) = hup (hup h (M + 8) (.inl (2, 72, .inl ky0))) M (.inr (9, mFs M kn t ms (nI 0)))
    congr 1
    funext x
    unfold hup
    split
    · rename_i q
      rw [q, Hk]
    · rfl
  rw [em]
  exact this
/-- what stands in the table of worths -/
def kpOK (kf sz wf : Nat → Int32) : Prop := ∀ a, a < 32768 → ∃ n, sz a = nI n ∧ n ≤ 72 ∧ (0 < n → ∃ Q, vld Q ∧ tiny Q ∧ (txt Q).length = n ∧ (∀ k v, (txt Q)[k]? = some v → kf (72 * a + k) = v) ∧ wf a = nI (val Q) ∧ val Q < 16)
theorem and_15 (x : Int32) : ∃ k, k < 32768 ∧ x &&& 32767 = nI k := by
  refine ⟨(x &&& 32767).toBitVec.toNat, ?_, ?_⟩
  · show (x.toBitVec &&& (32767 : Int32).toBitVec).toNat < 32768
    rw [BitVec.toNat_and]
    exact Nat.lt_of_le_of_lt Nat.and_le_right (by decide)
  · rw [← Int32.toBitVec_inj]
    show _ = BitVec.ofNat 32 _
    simp
def plQ (h : HP) (z n : Nat) (ky kf sz : Nat → Int32) : ipQ := fun o h2 z2 => z2 = z ∧ h2 = h ∧ (o = some (.int (-1)) ∨ ∃ a, a < 32768 ∧ o = some (.int (nI a)) ∧ n ≤ 72 ∧ (sz a = nI 0 ∨ (sz a = nI n ∧ ∀ k, k < n → kf (72 * a + k) = ky k)))
set_option maxHeartbeats 1000000 in
theorem t_placeOf {n : Nat} {ky kf sz : Nat → Int32} (H : h M = some (.inr (9, mFs M kn t ms (nI n)))) (Hk : h (M + 8) = some (.inl (2, 72, .inl ky))) (H3 : h (M + 3) = some (.inl (2, 2359296, .inl kf))) (H4 : h (M + 4) = some (.inl (0, 32768, .inl sz))) (hz : ∀ a, a < 32768 → ∃ n, sz a = nI n ∧ n ≤ 72) (hn : n < 1000) : ipC sc (d + 1) 142 [.ref M] h z 0 0 (plQ h z n ky kf sz) := by
  refine ipC_mk [some (.ref M), none, none, none, none, none] rfl (Nat.le_of_ble_eq_true rfl) ?_
  refine c142_0 (v_fs1_15 := n) H rfl (by omega) (fun hn72 => c142_11 ?_) (fun _ => c142_9 ⟨rfl, rfl, Or.inl rfl⟩)
  -- the tries
  have tries : ∀ (m j a : Nat) (o1 o4 o5 : Option Value), ip2 o1 = false → j + m = 200 → a < 32768 → ip sc (ipC sc d) 142 0 0 (plQ h z n ky kf sz) 55 [some (.ref M), o1, some (.int (nI a)), some (.int (nI j)), o4, o5] [] h z 0 0 := by
    intro m
    induction m with
    | zero =>
      intro j a o1 o4 o5 h1 hj ha
      exact c142_55 (by omega) (fun _ => c142_166 ⟨rfl, rfl, Or.inl rfl⟩) (fun r => absurd (by omega) r)
    | succ m ih =>
      intro j a o1 o4 o5 h1 hj ha
      obtain ⟨sn, hs1, hs2⟩ := hz a ha
      have nxt : ∀ (o4 o5 : Option Value), ip sc (ipC sc d) 142 0 0 (plQ h z n ky kf sz) 152 [some (.ref M), o1, some (.int (nI a)), some (.int (nI j)), o4, o5] [] h z 0 0 := fun o4 o5 => by
        obtain ⟨b, hb, eb⟩ := and_15 (nI (a + 1))
        refine c142_152 h1 ?_
        have eb : nI (a + 1) &&& nI 32767 = nI b := eb
        rw [eb]
        exact ih (j + 1) b o1 o4 o5 h1 (by omega) hb
      refine c142_55 (by omega) (fun r => absurd r (by omega)) (fun _ => ?_)
      refine c142_62 H rfl H4 ha (by decide) hs1 (by omega) (fun r => ?_) (fun r => ?_)
      · -- the bytes
        have bytes : ∀ (m k c : Nat), k + m = n → (c = 0 ∨ (c = 1 ∧ sn = n ∧ ∀ x, x < k → kf (72 * a + x) = ky x)) → ip sc (ipC sc d) 142 0 0 (plQ h z n ky kf sz) 96 [some (.ref M), o1, some (.int (nI a)), some (.int (nI j)), some (.int (nI c)), some (.int (nI k))] [] h z 0 0 := by
          intro m
          induction m with
          | zero =>
            intro k c hk hc
            refine c142_96 (v_fs1_15 := n) H rfl (by omega) (by omega) (fun _ => ?_) (fun r => absurd (by omega) r)
            rcases hc with rfl | ⟨rfl, hc1, hc2⟩
            · exact c142_145 (by omega) (fun _ => nxt _ _) (fun r => absurd rfl r)
            · refine c142_145 (by omega) (fun r => absurd r (by omega)) (fun _ => c142_150 ⟨rfl, rfl, Or.inr ⟨a, ha, rfl, hn72, Or.inr ⟨?_, ?_⟩⟩⟩)
              · rw [hs1, hc1]
              · rw [← show k = n by omega]
                exact hc2
          | succ m ih2 =>
            intro k c hk hc
            refine c142_96 (v_fs1_15 := n) H rfl (by omega) (by omega) (fun r => absurd r (by omega)) (fun _ => ?_)
            rcases hc with rfl | ⟨rfl, hc1, hc2⟩
            · exact c142_105 (by omega) (fun _ => c142_145 (by omega) (fun _ => nxt _ _) (fun r => absurd rfl r)) (fun r => absurd rfl r)
            · refine c142_105 (by omega) (fun r => absurd r (by omega)) (fun _ => ?_)
              refine c142_110 H rfl H3 (by omega) (by decide) rfl rfl Hk (by omega) (by decide) rfl (fun _ => ?_) (fun e => ?_)
              · exact c142_136 (c142_137 (ih2 (k + 1) 0 (by omega) (Or.inl rfl)))
              · refine c142_132 (c142_137 (ih2 (k + 1) 1 (by omega) (Or.inr ⟨rfl, hc1, fun x hx => ?_⟩)))
                by_cases q : x = k
                · rw [q]; exact Decidable.not_not.mp e
                · exact hc2 x (by omega)
        refine c142_73 (v_fs1_15 := n) H rfl H4 ha (by decide) hs1 rfl (by omega) (by omega) (fun e => ?_) (fun e => ?_)
        · exact c142_90 (c142_91 (bytes n 0 0 (by omega) (Or.inl rfl)))
        · exact c142_86 (c142_91 (bytes n 0 1 (by omega) (Or.inr ⟨rfl, Decidable.not_not.mp e, fun x hx => absurd hx (Nat.not_lt_zero _)⟩)))
      · refine c142_71 ⟨rfl, rfl, Or.inr ⟨a, ha, rfl, hn72, Or.inl ?_⟩⟩
        rw [hs1, Decidable.not_not.mp r]
  -- the digest
  have dig : ∀ (m k : Nat) (x : Int32), k + m = n → ip sc (ipC sc d) 142 0 0 (plQ h z n ky kf sz) 16 [some (.ref M), some (.int x), some (.int (nI k)), none, none, none] [] h z 0 0 := by
    intro m
    induction m with
    | zero =>
      intro k x hk
      refine b142_16 (v_fs1_15 := nI n) H rfl (fun _ => b142_42 ?_) (fun r => absurd (nI_le (by omega) (by omega)) r)
      obtain ⟨b, hb, eb⟩ := and_15 (x ^^^ ((x.toUInt32 >>> ((15 : Int32).toUInt32 &&& Int32.toUInt32 31)).toInt32))
      rw [eb]
      exact tries 200 0 b _ _ _ rfl (by omega) hb
    | succ m ih =>
      intro k x hk
      refine b142_16 (v_fs1_15 := nI n) H rfl (fun r => absurd r ?_) (fun _ => ?_)
      · rw [nI_leI (by omega) (by omega)]; omega
      · refine b142_24 H rfl Hk (vp_in_nI (by omega) (by decide)) ?_
        rw [nI_1]
        exact ih (k + 1) _ (by omega)
  exact dig n 0 7 (by omega)
end REF
