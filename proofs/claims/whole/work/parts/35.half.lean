/-! the class's Position: putHalf -/
theorem shr1 {a : Nat} (h : a < 2147483648) : (nI a) >>> ((nI 1) &&& 31) = nI (a / 2) := pk_shrN h _ 1 (by decide)
theorem and1 {a : Nat} (h : a < 2147483648) : (nI a) &&& (nI 1) = nI (a % 2) := by rw [pk_andN (n := a) (by omega) 1 (by decide)]
def halfL (lv x : List Nat) (i j half : Nat) : List Nat := if half = 0 then (x.drop i).take (j + 1 - i) else if i = j then rnd lv x i else x.drop j ++ x.take (i + 1)
section POS
variable {sc : ipSc} {d z b le pc q le2 pc2 m : Nat} {h : HP} {lv : List Nat} {F : List (List (List Nat))} {X : List (List Nat)} {C : List Nat} {P : PosT}
theorem t_putHalf (H : pbIs h b le pc (lv, F, [], [])) (HQ : plIs h q le2 pc2 P) (hd : ap5 b q) {f u i v j side half : Nat} (hm : h m = some (.inr (2, vFs f u i v j side))) (hmd : m < b ∨ b + 5 ≤ m) {Fd : List (List Nat)} {x : List Nat} (hf : P.2[f]? = some Fd) (hu : Fd[u]? = some x) (hij : i ≤ j) (hj : j < x.length) (hlo : lone P) (hok : posOK P) (hlen : lv.length = P.1.length + 1) (hlv : ∀ v ∈ lv, v ≤ 3) (hs0 : side < 2147483648) (hh : half < 2) {T : List (List Nat)} (hT : (halfL P.1 x i j half ++ [P.1.length]) :: othA side half u Fd 0 0 = T) (hb1 : F.flatten.flatten.length + T.flatten.length ≤ 100) (hb2 : F.flatten.length + T.length ≤ 31) (hb3 : F.length + 1 ≤ 24) : ipC sc (d + 3) 60 [.ref b, .ref q, .ref m, .int (nI half)] h z 0 0 (qB h b z (fun h2 => pbIs h2 b le pc (lv, clF le lv F (lnW le lv [] T), [], []))) := by
  have HQ0 := HQ
  have q1 := HQ.ob
  obtain ⟨-, sa, wf, ff, lf, ⟨s1, s2, s3, s4, s5⟩, r1, r2, r3, r4, k1, k2, k3, k4⟩ := HQ
  simp only at k3 k4 r4
  rw [bW_c] at k2
  have q1 : h q = some (.inr (6, pFs q le2 (bC (P.1, P.2, [], [])).length (bW (P.1, P.2, [], [])).length P.2.length P.1.length pc2 P.1.sum)) := q1
  have hlf := lt_some hf
  have hlu := lt_some hu
  have hs := lSt_s hf
  have hle2 := lSt_le (l := P.2) (f := f + 1)
  unfold ap5 at hd
  have hdd : ∀ h1, frm b 5 h h1 → ∀ y, q ≤ y → y < q + 5 → h1 y = h y := fun h1 hf y e1 e2 => hf y (by omega)
  have hpw : ∀ k x, Fd[k]? = some x → (pW P)[lSt P.2 f + k]? = some x := fun k x hx => lSt_at hf hx
  have hsp : ∀ k x, Fd[k]? = some x → ∀ c ∈ x, c < lv.length := fun k x hx c hc => by
    have := hok.1 c (List.mem_flatten.mpr ⟨x, List.mem_of_getElem? (hpw k x hx), hc⟩)
    omega
  have hcc := gD (d := 0) (show P.1.length < lv.length by omega)
  have hcc3 := hlv _ (List.mem_of_getElem? hcc)
  have hw := hpw u x hu
  have hwm := List.mem_of_getElem? hw
  have hxl : x.length ≤ 100 := by
    have e1 := lSt_s hw
    have e2 := lSt_le (l := pW P) (f := lSt P.2 f + u + 1)
    have e3 : (pW P).flatten.length ≤ 100 := by rw [bC_c] at k1; exact k1
    omega
  have hmL : ∀ c ∈ halfL P.1 x i j half, c < lv.length := by
    intro c hc
    unfold halfL at hc
    split at hc
    · exact hsp u x hu c (List.mem_of_mem_drop (List.mem_of_mem_take hc))
    · split at hc
      · exact hsp u x hu c (rnd_mem hc)
      · rcases List.mem_append.mp hc with hc | hc
        · exact hsp u x hu c (List.mem_of_mem_drop hc)
        · exact hsp u x hu c (List.mem_of_mem_take hc)
  have hTl : (halfL P.1 x i j half).length + 1 + (othA side half u Fd 0 0).flatten.length = T.flatten.length ∧ 1 + (othA side half u Fd 0 0).length = T.length := by
    rw [← hT, List.flatten_cons, List.length_append, List.length_append, List.length_cons]
    exact ⟨rfl, Nat.add_comm _ _⟩
  -- the other walls
  have loop : ∀ n k bit X1 h1 (o4 o6 : Option Value), ip2 o6 = false → k + n = Fd.length → frm b 5 h h1 → pbIs h1 b le pc (lv, F, X1, []) → lnW le lv X1 (othA side half u (Fd.drop k) k bit) = lnW le lv [] T → X1.length + (othA side half u (Fd.drop k) k bit).length ≤ T.length → X1.flatten.length + (othA side half u (Fd.drop k) k bit).flatten.length ≤ T.flatten.length → (∀ c ∈ X1.flatten, c < lv.length) → ip sc (ipC sc (d + 2)) 60 0 0 (qB h b z (fun h2 => pbIs h2 b le pc (lv, clF le lv F (lnW le lv [] T), [], []))) 101 [some (.ref b), some (.ref q), some (.ref m), some (.int (nI half)), o4, some (.int (nI (lSt P.2 f + u))), o6, some (.int (nI (side / 2 ^ bit))), some (.int (nI (lSt P.2 f + k)))] [] h1 z 0 0 := by
    intro n
    induction n with
    | zero =>
      intro k bit X1 h1 o4 o6 ho6 hk hf1 H1 e hl hl2 hmm
      have hq := hdd h1 hf1
      have hm1 := (hf1 m hmd).trans hm
      refine c60_101 (v_fs4_0 := f) ((hq q (by omega) (by omega)).trans q1) rfl hm1 rfl ((hq (q + 3) (by omega) (by omega)).trans s4) (by omega) (by decide) (r4 (f + 1) (by omega)) (by omega) (by omega) (fun _ => ?_) (fun r => absurd (show _ ≤ _ by omega) r)
      rw [List.drop_eq_nil_of_le (by omega)] at e
      have e : X1 = lnW le lv [] T := e
      refine c60_162 H1.ob (Nat.zero_le _) (Nat.zero_le _) (t_closeField H1 hmm hlv hb3) (kB fun h2 hf2 H2 => c60_166 ⟨rfl, rfl, hf1.tr hf2, ?_⟩)
      rw [← e]
      exact H2
    | succ n ih =>
      intro k bit X1 h1 o4 o6 ho6 hk hf1 H1 e hl hl2 hmm
      have hq := hdd h1 hf1
      have HQ1 := HQ0.off hq
      have hm1 := (hf1 m hmd).trans hm
      have qo := (hq q (by omega) (by omega)).trans q1
      obtain ⟨xk, hx0⟩ := gt_some (l := Fd) (i := k) (by omega)
      rw [drop_cons hx0] at e hl hl2
      unfold othA at e hl hl2
      have ebc : (bC (lv, F, X1, [])).length = F.flatten.flatten.length + X1.flatten.length := by unfold bC bW; simp
      have hdl : side / 2 ^ bit < 2147483648 := Nat.lt_of_le_of_lt (Nat.div_le_self _ _) hs0
      have hd2 : side / 2 ^ bit / 2 = side / 2 ^ (bit + 1) := by rw [Nat.div_div_eq_div_mul, Nat.pow_succ]
      refine c60_101 (v_fs4_0 := f) qo rfl hm1 rfl ((hq (q + 3) (by omega) (by omega)).trans s4) (by omega) (by decide) (r4 (f + 1) (by omega)) (by omega) (by omega) (fun r => absurd r (by omega)) (fun _ => ?_)
      refine c60_117 (by omega) (by omega) (fun he => c60_156 ?_) (fun hne => ?_)
      · rw [if_pos (show k = u by omega)] at e hl hl2
        exact ih (k + 1) bit X1 h1 o4 o6 ho6 (by omega) hf1 H1 e hl hl2 hmm
      · rw [if_neg (show ¬ k = u by omega)] at e hl hl2
        refine c60_124 (fun hn => ?_) (fun hn => ?_)
        · rw [and1 hdl, nI_eq (by omega) (by omega)] at hn
          rw [if_neg hn] at e hl hl2
          refine c60_150 ho6 ?_
          rw [shr1 hdl, hd2]
          exact c60_156 (ih (k + 1) (bit + 1) X1 h1 o4 o6 ho6 (by omega) hf1 H1 e hl hl2 hmm)
        · have hn := Classical.not_not.mp hn
          rw [and1 hdl, nI_eq (by omega) (by omega)] at hn
          rw [if_pos hn] at e hl hl2
          rw [List.length_cons] at hl
          rw [List.flatten_cons, List.length_append] at hl2
          have hwk := hpw k xk hx0
          have hxne : 0 < xk.length := List.length_pos_iff.mpr (hlo xk (List.mem_of_getElem? hwk)).1
          refine c60_132 qo (Nat.zero_le _) (Nat.zero_le _) (t_size HQ1 hwk) (kI ?_)
          refine c60_143 H1.ob (Nat.zero_le _) (Nat.zero_le _) (t_putRound H1 HQ1 hd hwk hxne (hsp k xk hx0) hlv (fun c hc => by cases hc) (by omega)) (kB fun h2 hf2 H2 => ?_)
          rw [cyc_all] at H2
          have hpm : ∀ c ∈ putL le lv [] xk, c < lv.length := fun c hc => by
            rcases putL_mem hc with hc | hc
            · cases hc
            · exact hsp k xk hx0 c hc
          have ebw : (bW (lv, F, X1, putL le lv [] xk)).length = F.flatten.length + X1.length := by unfold bW; rw [List.length_append]
          refine c60_146 H2.ob (Nat.zero_le _) (Nat.zero_le _) (t_closeWall H2 hpm (by omega)) (kB fun h3 hf3 H3 => c60_150 ho6 ?_)
          rw [shr1 hdl, hd2]
          refine c60_156 ?_
          have hcw := clW_len (le := le) (X := X1) (C := putL le lv [] xk)
          have hpl := putL_len (le := le) (lv := lv) (l := xk) (C := [])
          rw [List.length_nil] at hpl
          refine ih (k + 1) (bit + 1) (clW le X1 (putL le lv [] xk)) h3 o4 o6 ho6 (by omega) ((hf1.tr hf2).tr hf3) H3 e (by omega) (by omega) (fun c hc => ?_)
          rcases clW_mem hc with hc | hc
          · exact hmm c hc
          · exact hpm c hc
  -- the divided wall's part is put: the new spot, the wall is closed
  have mid : ∀ h1 (o6 o7 o8 : Option Value), ip2 o6 = false → frm b 5 h h1 → pbIs h1 b le pc (lv, F, [], putL le lv [] (halfL P.1 x i j half)) → ip sc (ipC sc (d + 2)) 60 0 0 (qB h b z (fun h2 => pbIs h2 b le pc (lv, clF le lv F (lnW le lv [] T), [], []))) 79 [some (.ref b), some (.ref q), some (.ref m), some (.int (nI half)), some (.int (nI (lSt P.2 f))), some (.int (nI (lSt P.2 f + u))), o6, o7, o8] [] h1 z 0 0 := by
    intro h1 o6 o7 o8 ho6 hf1 H1
    have qo := (hdd h1 hf1 q (by omega) (by omega)).trans q1
    have m1 : ∀ c ∈ putL le lv [] (halfL P.1 x i j half), c < lv.length := fun c hc => by
      rcases putL_mem hc with hc | hc
      · cases hc
      · exact hmL c hc
    have l1 := putL_len (le := le) (lv := lv) (l := halfL P.1 x i j half) (C := [])
    have g1 := bC_len (lv := lv) (F := F) (X := []) (C := putL le lv [] (halfL P.1 x i j half))
    have gw1 : (bW (lv, F, [], putL le lv [] (halfL P.1 x i j half))).flatten.length = F.flatten.flatten.length := by unfold bW; simp
    rw [List.length_nil] at l1
    refine c60_79 (v_fs1_8 := P.1.length) qo rfl H1.ob (Nat.zero_le _) (Nat.zero_le _) (t_put H1 hcc hcc3 m1 (by omega)) (kB fun h2 hf2 H2 => ?_)
    rw [← putL_one, ← putL_app] at H2
    have m2 : ∀ c ∈ putL le lv [] (halfL P.1 x i j half ++ [P.1.length]), c < lv.length := fun c hc => by
      rcases putL_mem hc with hc | hc
      · cases hc
      · rcases List.mem_append.mp hc with hc | hc
        · exact hmL c hc
        · rw [List.mem_singleton.mp hc]; omega
    have ebw : (bW (lv, F, [], putL le lv [] (halfL P.1 x i j half ++ [P.1.length]))).length = F.flatten.length := by unfold bW; simp
    refine c60_87 H2.ob (Nat.zero_le _) (Nat.zero_le _) (t_closeWall H2 m2 (by omega)) (kB fun h3 hf3 H3 => ?_)
    have hf3 := (hf1.tr hf2).tr hf3
    refine c60_91 (v_fs1_5 := side) ((hf3 m hmd).trans hm) rfl ho6 ?_
    have hcw := clW_len (le := le) (X := []) (C := putL le lv [] (halfL P.1 x i j half ++ [P.1.length]))
    have l2 := putL_len (le := le) (lv := lv) (l := halfL P.1 x i j half ++ [P.1.length]) (C := [])
    simp only [List.length_append, List.length_cons, List.length_nil, List.flatten_nil] at l2 hcw
    have := loop Fd.length 0 0 (clW le [] (putL le lv [] (halfL P.1 x i j half ++ [P.1.length]))) h3 (some (.int (nI (lSt P.2 f)))) o6 ho6 (by omega) hf3 H3 (by rw [List.drop_zero, ← hT]; rfl) (by rw [List.drop_zero]; omega) (by rw [List.drop_zero]; omega) (fun c hc => by
      rcases clW_mem hc with hc | hc
      · cases hc
      · exact m2 c hc)
    rw [Nat.pow_zero, Nat.div_one] at this
    exact this
  have ebc0 : (bC (lv, F, [], [])).length = F.flatten.flatten.length := by rw [bC_c]
  refine ipC_mk [some (.ref b), some (.ref q), some (.ref m), some (.int (nI half)), none, none, none, none, none] rfl (Nat.le_of_ble_eq_true rfl) ?_
  refine c60_0 (v_fs4_0 := f) (v_fs4_1 := u) (v_fs4_2 := i) (v_fs4_4 := j) q1 rfl hm rfl s4 (by omega) (by decide) (r4 f (by omega)) rfl rfl rfl hij (by omega) (fun hne => ?_) (fun he => ?_)
  · have hh1 : half = 1 := by omega
    have hwh : j - i + 1 ≤ whole P.1 x i ∧ cyc x j (whole P.1 x i - (j - i + 1) + 1) = halfL P.1 x i j half := by
      unfold halfL
      rw [if_neg hne]
      by_cases eij : i = j
      · subst eij
        rw [if_pos rfl]
        have hw1 : 1 ≤ whole P.1 x i := by unfold whole; split <;> omega
        rw [show whole P.1 x i - (i - i + 1) + 1 = whole P.1 x i by omega]
        exact ⟨by omega, cyc_whole hlo hwm (by omega)⟩
      · rw [if_neg eij]
        have hn3 : ¬ P.1.getD (x.getD i 0) 0 = 3 := fun r => by
          have := (hlo x hwm).2 _ (List.mem_of_getElem? (gD (d := 0) (show i < x.length by omega))) r
          omega
        have ewh : whole P.1 x i = x.length + 1 := if_neg hn3
        rw [ewh]
        exact ⟨by omega, cyc_round hj (by omega) (by omega)⟩
    have hcl := cyc_len x (whole P.1 x i - (j - i + 1) + 1) j
    rw [hwh.2] at hcl
    refine c60_53 (v_fs1_4 := j) (v_fs1_2 := i) hm rfl rfl q1 (Nat.zero_le _) (Nat.zero_le _) (t_wholeRound HQ0 hw (by omega) hok) (kI ?_)
    refine c60_71 hwh.1 H.ob (Nat.zero_le _) (Nat.zero_le _) (t_putRound H HQ0 hd hw hj (hsp u x hu) hlv (fun c hc => by cases hc) (by omega)) (kB fun h2 hf2 H2 => ?_)
    rw [hwh.2] at H2
    exact mid h2 _ _ _ rfl hf2 H2
  · have he := Classical.not_not.mp he
    subst he
    have hcl : cyc x i (j - i + 1) = halfL P.1 x i j 0 := by
      unfold halfL
      rw [if_pos rfl, cyc_drop x _ i (by omega), show j - i + 1 = j + 1 - i by omega]
    have hln := cyc_len x (j - i + 1) i
    rw [hcl] at hln
    refine c60_37 (v_fs1_2 := i) hm rfl H.ob (Nat.zero_le _) (Nat.zero_le _) (t_putRound H HQ0 hd hw (by omega) (hsp u x hu) hlv (fun c hc => by cases hc) (by omega)) (kB fun h2 hf2 H2 => c60_50 ?_)
    rw [hcl] at H2
    exact mid h2 _ _ _ rfl hf2 H2
end POS
