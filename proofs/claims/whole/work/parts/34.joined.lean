/-! the class's Position: putJoined, putHalf -/
def vFs (f u i v j side : Nat) : List Value := [.int (nI f), .int (nI u), .int (nI i), .int (nI v), .int (nI j), .int (nI side)]
theorem pbIs.ob {h : HP} {b le pc : Nat} {B : PB} (H : pbIs h b le pc B) : h b = some (.inr (6, pFs b le (bC B).length (bW B).length B.2.1.length B.1.length pc B.1.sum)) := by
  obtain ⟨-, sa, wf, ff, lf, hs, -⟩ := H
  exact hs.1
theorem putL_app {le : Nat} {lv C l1 l2 : List Nat} : putL le lv C (l1 ++ l2) = putL le lv (putL le lv C l1) l2 := List.foldl_append
theorem putL_one {le a : Nat} {lv C : List Nat} : putL le lv C [a] = pPut le lv C a := rfl
theorem rnd_mem {lv x : List Nat} {i c : Nat} (h : c ∈ rnd lv x i) : c ∈ x := by
  unfold rnd at h
  rcases List.mem_append.mp h with h | h
  · exact List.mem_of_mem_drop h
  · split at h
    · cases h
    · exact List.mem_of_mem_take h
theorem whole_len {P : PosT} {x : List Nat} {i : Nat} (hl : lone P) (hx : x ∈ pW P) (hi : i < x.length) : whole P.1 x i = (rnd P.1 x i).length := by
  rw [← cyc_whole hl hx hi, cyc_len]
section POS
variable {sc : ipSc} {d z b le pc q le2 pc2 m : Nat} {h : HP} {lv : List Nat} {F : List (List (List Nat))} {X : List (List Nat)} {C : List Nat} {P : PosT}
theorem t_putJoined (H : pbIs h b le pc (lv, F, [], [])) (HQ : plIs h q le2 pc2 P) (hd : ap5 b q) {f u i v j side : Nat} (hm : h m = some (.inr (2, vFs f u i v j side))) (hmd : m < b ∨ b + 5 ≤ m) {Fd : List (List Nat)} {x y : List Nat} (hf : P.2[f]? = some Fd) (hu : Fd[u]? = some x) (hv : Fd[v]? = some y) (hi : i < x.length) (hj : j < y.length) (hlo : lone P) (hok : posOK P) (hlen : lv.length = P.1.length + 1) (hlv : ∀ v ∈ lv, v ≤ 3) {T : List (List Nat)} (hT : mrgA u v (rnd P.1 x i ++ [P.1.length] ++ rnd P.1 y j ++ [P.1.length]) Fd 0 = T) (hb1 : F.flatten.flatten.length + T.flatten.length ≤ 100) (hb2 : F.flatten.length + T.length ≤ 31) (hb3 : F.length + 1 ≤ 24) : ipC sc (d + 3) 59 [.ref b, .ref q, .ref m] h z 0 0 (qB h b z (fun h2 => pbIs h2 b le pc (lv, clF le lv F (lnW le lv [] T), [], []))) := by
  have HQ0 := HQ
  have q1 := HQ.ob
  obtain ⟨-, sa, wf, ff, lf, ⟨s1, s2, s3, s4, s5⟩, r1, r2, r3, r4, k1, k2, k3, k4⟩ := HQ
  simp only at k3 k4 r4
  rw [bW_c] at k2
  have q1 : h q = some (.inr (6, pFs q le2 (bC (P.1, P.2, [], [])).length (bW (P.1, P.2, [], [])).length P.2.length P.1.length pc2 P.1.sum)) := q1
  have hlf := lt_some hf
  have hlu := lt_some hu
  have hlv2 := lt_some hv
  have hs := lSt_s hf
  have hle2 := lSt_le (l := P.2) (f := f + 1)
  unfold ap5 at hd
  have hdd : ∀ h1, frm b 5 h h1 → ∀ y, q ≤ y → y < q + 5 → h1 y = h y := fun h1 hf y e1 e2 => hf y (by omega)
  have hpw : ∀ k x, Fd[k]? = some x → (pW P)[lSt P.2 f + k]? = some x := fun k x hx => lSt_at hf hx
  have hsp : ∀ k x, Fd[k]? = some x → ∀ c ∈ x, c < lv.length := fun k x hx c hc => by
    have := hok.1 c (List.mem_flatten.mpr ⟨x, List.mem_of_getElem? (hpw k x hx), hc⟩)
    omega
  have hcc := gD (d := 0) (show P.1.length < lv.length by omega)
  have hcc3 := hlv _ (List.mem_of_getElem? hcc)
  refine ipC_mk [some (.ref b), some (.ref q), some (.ref m), none, none, none] rfl (Nat.le_of_ble_eq_true rfl) ?_
  refine c59_0 (v_fs4_0 := f) q1 rfl hm rfl s4 (by omega) (by decide) (r4 f (by omega)) rfl ?_
  have loop : ∀ n k X1 h1, k + n = Fd.length → frm b 5 h h1 → pbIs h1 b le pc (lv, F, X1, []) → lnW le lv X1 (mrgA u v (rnd P.1 x i ++ [P.1.length] ++ rnd P.1 y j ++ [P.1.length]) (Fd.drop k) k) = lnW le lv [] T → X1.length + (mrgA u v (rnd P.1 x i ++ [P.1.length] ++ rnd P.1 y j ++ [P.1.length]) (Fd.drop k) k).length ≤ T.length → X1.flatten.length + (mrgA u v (rnd P.1 x i ++ [P.1.length] ++ rnd P.1 y j ++ [P.1.length]) (Fd.drop k) k).flatten.length ≤ T.flatten.length → (∀ c ∈ X1.flatten, c < lv.length) → ip sc (ipC sc (d + 2)) 59 0 0 (qB h b z (fun h2 => pbIs h2 b le pc (lv, clF le lv F (lnW le lv [] T), [], []))) 19 [some (.ref b), some (.ref q), some (.ref m), some (.int (nI (lSt P.2 f))), some (.int (nI P.1.length)), some (.int (nI (lSt P.2 f + k)))] [] h1 z 0 0 := by
    intro n
    induction n with
    | zero =>
      intro k X1 h1 hk hf1 H1 e hl hl2 hmm
      have hq := hdd h1 hf1
      have hm1 := (hf1 m hmd).trans hm
      refine c59_19 (v_fs4_0 := f) ((hq q (by omega) (by omega)).trans q1) rfl hm1 rfl ((hq (q + 3) (by omega) (by omega)).trans s4) (by omega) (by decide) (r4 (f + 1) (by omega)) (by omega) (by omega) (fun _ => ?_) (fun r => absurd (show _ ≤ _ by omega) r)
      rw [List.drop_eq_nil_of_le (by omega)] at e
      have e : X1 = lnW le lv [] T := e
      refine c59_150 H1.ob (Nat.zero_le _) (Nat.zero_le _) (t_closeField H1 hmm hlv hb3) (kB fun h2 hf2 H2 => c59_154 ⟨rfl, rfl, hf1.tr hf2, ?_⟩)
      rw [← e]
      exact H2
    | succ n ih =>
      intro k X1 h1 hk hf1 H1 e hl hl2 hmm
      have hq := hdd h1 hf1
      have HQ1 := HQ0.off hq
      have hm1 := (hf1 m hmd).trans hm
      have qo := (hq q (by omega) (by omega)).trans q1
      obtain ⟨xk, hx0⟩ := gt_some (l := Fd) (i := k) (by omega)
      have hxm := List.mem_of_getElem? hx0
      rw [drop_cons hx0] at e hl hl2
      unfold mrgA at e hl hl2
      have ebc : (bC (lv, F, X1, [])).length = F.flatten.flatten.length + X1.flatten.length := by unfold bC bW; simp
      refine c59_19 (v_fs4_0 := f) qo rfl hm1 rfl ((hq (q + 3) (by omega) (by omega)).trans s4) (by omega) (by decide) (r4 (f + 1) (by omega)) (by omega) (by omega) (fun r => absurd r (by omega)) (fun _ => ?_)
      refine c59_35 (v_fs1_1 := u) hm1 rfl (by omega) (by omega) (fun hne => ?_) (fun he => ?_)
      · have hne : ¬ k = u := by omega
        rw [if_neg hne] at e hl hl2
        refine c59_115 (v_fs1_3 := v) hm1 rfl (by omega) (by omega) (fun he => c59_144 ?_) (fun hnv => ?_)
        · rw [if_pos (show k = v by omega)] at e hl hl2
          exact ih (k + 1) X1 h1 (by omega) hf1 H1 e hl hl2 hmm
        · rw [if_neg (show ¬ k = v by omega)] at e hl hl2
          rw [List.length_cons] at hl
          rw [List.flatten_cons, List.length_append] at hl2
          have hw := hpw k xk hx0
          have hxne : 0 < xk.length := List.length_pos_iff.mpr (hlo xk (List.mem_of_getElem? hw)).1
          refine c59_126 qo (Nat.zero_le _) (Nat.zero_le _) (t_size HQ1 hw) (kI ?_)
          refine c59_137 H1.ob (Nat.zero_le _) (Nat.zero_le _) (t_putRound H1 HQ1 hd hw hxne (hsp k xk hx0) hlv (fun c hc => by cases hc) (by omega)) (kB fun h2 hf2 H2 => ?_)
          rw [cyc_all] at H2
          have hpm : ∀ c ∈ putL le lv [] xk, c < lv.length := fun c hc => by
            rcases putL_mem hc with hc | hc
            · cases hc
            · exact hsp k xk hx0 c hc
          have ebw : (bW (lv, F, X1, putL le lv [] xk)).length = F.flatten.length + X1.length := by unfold bW; rw [List.length_append]
          refine c59_140 H2.ob (Nat.zero_le _) (Nat.zero_le _) (t_closeWall H2 hpm (by omega)) (kB fun h3 hf3 H3 => c59_144 ?_)
          have hcw := clW_len (le := le) (X := X1) (C := putL le lv [] xk)
          have hpl := putL_len (le := le) (lv := lv) (l := xk) (C := [])
          rw [List.length_nil] at hpl
          refine ih (k + 1) (clW le X1 (putL le lv [] xk)) h3 (by omega) ((hf1.tr hf2).tr hf3) H3 e (by omega) (by omega) (fun c hc => ?_)
          rcases clW_mem hc with hc | hc
          · exact hmm c hc
          · exact hpm c hc
      · have he : k = u := by omega
        subst he
        rw [if_pos rfl] at e hl hl2
        rw [List.length_cons] at hl
        rw [List.flatten_cons, List.length_append] at hl2
        simp only [List.length_append, List.length_cons, List.length_nil] at hl2
        have exx : xk = x := Option.some.inj (hx0.symm.trans hu)
        subst exx
        have hw := hpw k xk hu
        have hwv := hpw v y hv
        have hwm := List.mem_of_getElem? hw
        have hwvm := List.mem_of_getElem? hwv
        have ew := whole_len hlo hwm hi
        have ewv := whole_len hlo hwvm hj
        have q2 : ∀ h2, frm b 5 h h2 → h2 q = h q := fun h2 hf2 => hdd h2 hf2 q (by omega) (by omega)
        refine c59_46 (v_fs1_2 := i) hm1 rfl qo (Nat.zero_le _) (Nat.zero_le _) (t_wholeRound HQ1 hw hi hok) (kI ?_)
        refine c59_64 H1.ob (Nat.zero_le _) (Nat.zero_le _) (t_putRound H1 HQ1 hd hw hi (hsp k xk hu) hlv (fun c hc => by cases hc) (by omega)) (kB fun h2 hf2 H2 => ?_)
        rw [cyc_whole hlo hwm hi] at H2
        have hf2 := hf1.tr hf2
        have HQ2 := HQ0.off (hdd h2 hf2)
        have hm2 := (hf2 m hmd).trans hm
        have m1 : ∀ c ∈ putL le lv [] (rnd P.1 xk i), c < lv.length := fun c hc => by
          rcases putL_mem hc with hc | hc
          · cases hc
          · exact hsp k xk hu c (rnd_mem hc)
        have l1 := putL_len (le := le) (lv := lv) (l := rnd P.1 xk i) (C := [])
        have g1 := bC_len (lv := lv) (F := F) (X := X1) (C := putL le lv [] (rnd P.1 xk i))
        have g0 := bC_len (lv := lv) (F := F) (X := X1) (C := [])
        have gw1 : bW (lv, F, X1, putL le lv [] (rnd P.1 xk i)) = bW (lv, F, X1, []) := rfl
        rw [gw1] at g1
        rw [List.length_nil] at g0 l1
        refine c59_67 H2.ob (Nat.zero_le _) (Nat.zero_le _) (t_put H2 hcc hcc3 m1 (by omega)) (kB fun h3 hf3 H3 => ?_)
        rw [← putL_one, ← putL_app] at H3
        have hf3 := hf2.tr hf3
        have HQ3 := HQ0.off (hdd h3 hf3)
        have hm3 := (hf3 m hmd).trans hm
        have m2 : ∀ c ∈ putL le lv [] (rnd P.1 xk i ++ [P.1.length]), c < lv.length := fun c hc => by
          rcases putL_mem hc with hc | hc
          · cases hc
          · rcases List.mem_append.mp hc with hc | hc
            · exact hsp k xk hu c (rnd_mem hc)
            · rw [List.mem_singleton.mp hc]; omega
        have l2 := putL_len (le := le) (lv := lv) (l := rnd P.1 xk i ++ [P.1.length]) (C := [])
        have g2 := bC_len (lv := lv) (F := F) (X := X1) (C := putL le lv [] (rnd P.1 xk i ++ [P.1.length]))
        have gw2 : bW (lv, F, X1, putL le lv [] (rnd P.1 xk i ++ [P.1.length])) = bW (lv, F, X1, []) := rfl
        rw [gw2] at g2
        simp only [List.length_append, List.length_cons, List.length_nil] at l2
        refine c59_73 (v_fs1_3 := v) (v_fs1_4 := j) hm3 rfl rfl ((q2 h3 hf3).trans q1) (Nat.zero_le _) (Nat.zero_le _) (t_wholeRound HQ3 hwv hj hok) (kI ?_)
        refine c59_99 H3.ob (Nat.zero_le _) (Nat.zero_le _) (t_putRound H3 HQ3 hd hwv hj (hsp v y hv) hlv m2 (by omega)) (kB fun h4 hf4 H4 => ?_)
        rw [cyc_whole hlo hwvm hj, ← putL_app] at H4
        have hf4 := hf3.tr hf4
        have m3 : ∀ c ∈ putL le lv [] (rnd P.1 xk i ++ [P.1.length] ++ rnd P.1 y j), c < lv.length := fun c hc => by
          rcases putL_mem hc with hc | hc
          · cases hc
          · rcases List.mem_append.mp hc with hc | hc
            · rcases List.mem_append.mp hc with hc | hc
              · exact hsp k xk hu c (rnd_mem hc)
              · rw [List.mem_singleton.mp hc]; omega
            · exact hsp v y hv c (rnd_mem hc)
        have l3 := putL_len (le := le) (lv := lv) (l := rnd P.1 xk i ++ [P.1.length] ++ rnd P.1 y j) (C := [])
        have g3 := bC_len (lv := lv) (F := F) (X := X1) (C := putL le lv [] (rnd P.1 xk i ++ [P.1.length] ++ rnd P.1 y j))
        have gw3 : bW (lv, F, X1, putL le lv [] (rnd P.1 xk i ++ [P.1.length] ++ rnd P.1 y j)) = bW (lv, F, X1, []) := rfl
        rw [gw3] at g3
        simp only [List.length_append, List.length_cons, List.length_nil] at l3
        refine c59_102 H4.ob (Nat.zero_le _) (Nat.zero_le _) (t_put H4 hcc hcc3 m3 (by omega)) (kB fun h5 hf5 H5 => ?_)
        rw [← putL_one, ← putL_app] at H5
        have hf5 := hf4.tr hf5
        have m4 : ∀ c ∈ putL le lv [] (rnd P.1 xk i ++ [P.1.length] ++ rnd P.1 y j ++ [P.1.length]), c < lv.length := fun c hc => by
          rcases putL_mem hc with hc | hc
          · cases hc
          · rcases List.mem_append.mp hc with hc | hc
            · rcases List.mem_append.mp hc with hc | hc
              · rcases List.mem_append.mp hc with hc | hc
                · exact hsp k xk hu c (rnd_mem hc)
                · rw [List.mem_singleton.mp hc]; omega
              · exact hsp v y hv c (rnd_mem hc)
            · rw [List.mem_singleton.mp hc]; omega
        have ebw : (bW (lv, F, X1, putL le lv [] (rnd P.1 xk i ++ [P.1.length] ++ rnd P.1 y j ++ [P.1.length]))).length = F.flatten.length + X1.length := by unfold bW; rw [List.length_append]
        refine c59_108 H5.ob (Nat.zero_le _) (Nat.zero_le _) (t_closeWall H5 m4 (by omega)) (kB fun h6 hf6 H6 => c59_112 (c59_144 ?_))
        have hcw := clW_len (le := le) (X := X1) (C := putL le lv [] (rnd P.1 xk i ++ [P.1.length] ++ rnd P.1 y j ++ [P.1.length]))
        have l4 := putL_len (le := le) (lv := lv) (l := rnd P.1 xk i ++ [P.1.length] ++ rnd P.1 y j ++ [P.1.length]) (C := [])
        simp only [List.length_append, List.length_cons, List.length_nil] at l4
        refine ih (k + 1) _ h6 (by omega) (hf5.tr hf6) H6 e (by omega) (by omega) (fun c hc => ?_)
        rcases clW_mem hc with hc | hc
        · exact hmm c hc
        · exact m4 c hc
  have := loop Fd.length 0 [] h (by omega) frm.rf H (by rw [List.drop_zero, hT]) (by rw [List.drop_zero, hT]; exact Nat.le_of_eq (Nat.zero_add _)) (by rw [List.drop_zero, hT]; exact Nat.le_of_eq (Nat.zero_add _)) (fun c hc => by cases hc)
  exact this
end POS
