/-! the class's Solver: worthOfDraft -/
def sQ (S dep e : Nat) (h : HP) (z v : Nat) : ipQ := fun o h2 z2 => o = some (.int (nI v)) ∧ z2 = z ∧ sfr S dep e h h2 ∧ slv h2 S
def WDs (sc : ipSc) (n : Nat) : Prop := ∀ (d z S dep pc : Nat) (h : HP) (P : PosT), slv h S → plIs h (S + 19) 1 pc P → vld P → lean P → P.1.sum ≤ n → n + dep ≤ 9 → ipC sc (d + 2 * n + 8) 68 [.ref S, .int (nI dep)] h z 0 0 (sQ S dep (5 * dep) h z (val P))
def WKs (sc : ipSc) (n : Nat) : Prop := ∀ (d z S dep : Nat) (h : HP) (N1 N2 : Nat), slv h S → keyOK N1 N2 n → n + dep ≤ 9 → dep ≤ 8 → ipC sc (d + 2 * n + 7) 69 [.ref S, .long (lN N1), .long (lN N2), .int (nI dep)] h z 0 0 (sQ S dep (5 * dep + 5) h z (val (kP N1 N2)))
section SP
variable {P : PosT}
theorem lean_cor (hv : vld P) (hle : lean P) {n : Nat} (hs : P.1.sum ≤ n) : (pC P).length ≤ 2 * n := by
  have hD : ∀ a ∈ P.2.flatten.flatten, a ∈ ddF (pC P) := fun a ha => ddF_mem.mpr ha
  have hDl : ∀ a ∈ ddF (pC P), a < P.1.length := fun a ha => hv.1.1 a (ddF_mem.mp ha)
  have h1 := vld_cn (D := ddF (pC P)) hv hD hDl
  have h2 : slim (cnP P.1 (ddF (pC P)) P.2) := by
    refine ⟨fun v hx => ?_, ren_ne fun X hX q => ?_⟩
    · obtain ⟨s, hs2, rfl⟩ := List.mem_map.mp hx
      have := hle.1 s (ddF_mem.mp hs2)
      omega
    · have := hle.2 X hX
      rw [q] at this
      cases this
  have h3 := cn_sum (F := P.2) (ddF_nodup (l := pC P)) hDl
  have h4 := slim_b h1 h2 (n := n) (by omega)
  have h5 : pC (cnP P.1 (ddF (pC P)) P.2) = (pC P).map (fun s => (ddF (pC P)).idxOf s) := pC_ren (P := (P.1, P.2)) (rn_cn hD)
  rw [h5, List.length_map] at h4
  exact h4.2.1
theorem cnt_prF {a : Nat} : (prF P.2 P.2.length).countP (fun x => x.1 == a) = (pC P).count a := by
  have h := prF_fst (F := P.2) (n := P.2.length) (Nat.le_refl _)
  rw [List.take_length] at h
  have : pC P = (prF P.2 P.2.length).map Prod.fst := h.symm
  rw [this]
  have : ∀ l : List (Nat × Nat), l.countP (fun x => x.1 == a) = (l.map Prod.fst).count a := by
    intro l
    induction l with
    | nil => rfl
    | cons x l ih =>
      rw [List.countP_cons, List.map_cons, List.count_cons, ih]
  exact this _
variable {tm fi lk : Nat → Int32} {fN lN : Nat → Nat}
/-- a set that isn't empty has two lives at least -/
theorem lvM_two (hv : vld P) (hle : lean P) (S : ptS P.1.length P.2.length (prF P.2 P.2.length) tm fi lk fN lN) {w : Nat} (hw : w < 2 ^ P.2.length) (hc : clsd lN w) (h0 : w ≠ 0) : 2 ≤ lvM P.1 (prF P.2 P.2.length) fN w P.1.length := by
  obtain ⟨f, -, hf⟩ := bit_ex (m := 0) (v := w) (fun i q => by simp at q) (fun q => h0 q.symm)
  have hfl := bit_hi hw hf
  have hX : P.2.getD f [] ∈ P.2 := List.mem_of_getElem? (gD (d := []) hfl)
  have hin : ∀ a ∈ (P.2.getD f []).flatten, a ∈ ddF (sM P.2 (flM w P.2.length)).flatten.flatten ∧ a < P.1.length ∧ 1 ≤ P.1.getD a 0 := fun a ha => by
    have h1 : a ∈ pC P := by
      obtain ⟨x, hx, hax⟩ := List.mem_flatten.mp ha
      exact List.mem_flatten.mpr ⟨x, List.mem_flatten.mpr ⟨_, hX, hx⟩, hax⟩
    refine ⟨ddF_mem.mpr (sM_mem.mpr ⟨f, flM_mem.mpr ⟨hfl, hf⟩, ha⟩), hv.1.1 a h1, ?_⟩
    have := hle.1 a h1
    omega
  rw [lvM_sum S hw hc (D := ddF (sM P.2 (flM w P.2.length)).flatten.flatten) (fun a => ddF_mem)]
  obtain ⟨a, ha, h2⟩ := cMv_two (hle.2 _ hX)
  obtain ⟨a1, a2, a3⟩ := hin a ha
  rcases h2 with h2 | ⟨c, hc2, hac⟩
  · have := sD_ge1 (L := P.1) a1 P.1.length a2
    omega
  · obtain ⟨c1, c2, c3⟩ := hin c hc2
    have := sD_ge2 (L := P.1) a1 c1 hac P.1.length a2 c2
    omega
theorem val_pair (hv : vld P) (hle : lean P) (S : ptS P.1.length P.2.length (prF P.2 P.2.length) tm fi lk fN lN) {w : Nat} (hw : w < 2 ^ P.2.length) (hc : clsd lN w) (h0 : w ≠ 0) (h2 : lvM P.1 (prF P.2 P.2.length) fN w P.1.length = 2) : val (P.1, sM P.2 (flM w P.2.length)) = 1 := by
  have hv2 := vld_sM hv (flM_nodup (w := w) (n := P.2.length)) (fun f hf => (flM_mem.mp hf).1)
  have hD : ∀ a ∈ (sM P.2 (flM w P.2.length)).flatten.flatten, a ∈ ddF (sM P.2 (flM w P.2.length)).flatten.flatten := fun a ha => ddF_mem.mpr ha
  have hDl : ∀ a ∈ ddF (sM P.2 (flM w P.2.length)).flatten.flatten, a < P.1.length := fun a ha => hv2.1.1 a (ddF_mem.mp ha)
  rw [← val_cn hv2 hD hDl]
  have hsum : (cnP P.1 (ddF (sM P.2 (flM w P.2.length)).flatten.flatten) (sM P.2 (flM w P.2.length))).1.sum = 2 := by
    show (List.map _ _).sum = 2
    rw [sD_sum ddF_nodup hDl, ← lvM_sum S hw hc (fun a => ddF_mem), h2]
  have z : ∀ f u i v j s, legal (cnP P.1 (ddF (sM P.2 (flM w P.2.length)).flatten.flatten) (sM P.2 (flM w P.2.length))) f u i v j s → val (doMv (cnP P.1 (ddF (sM P.2 (flM w P.2.length)).flatten.flatten) (sM P.2 (flM w P.2.length))) f u i v j s) = 0 := fun f u i v j s h => by
    refine val_eq (fun f2 u2 i2 v2 j2 s2 h2 => ?_) (fun k hk => absurd hk (Nat.not_lt_zero _))
    obtain ⟨Fd, x, y, a, b, -, -, -, -, -, h6⟩ := legal_at h2
    have := cM_two h6
    have := mv_sum h
    omega
  refine val_eq (fun f u i v j s h => by rw [z f u i v j s h]; omega) (fun k hk => ?_)
  have : k = 0 := by omega
  subst this
  obtain ⟨f, -, hf⟩ := bit_ex (m := 0) (v := w) (fun i q => by simp at q) (fun q => h0 q.symm)
  have hfl := bit_hi hw hf
  have hX : P.2.getD f [] ∈ P.2 := List.mem_of_getElem? (gD (d := []) hfl)
  have hXs : P.2.getD f [] ∈ sM P.2 (flM w P.2.length) := List.mem_map.mpr ⟨f, flM_mem.mpr ⟨hfl, hf⟩, rfl⟩
  have hsl := sM_len (F := P.2) (flM_nodup (w := w) (n := P.2.length)) (fun f hf => (flM_mem.mp hf).1)
  obtain ⟨f2, u, i, v, j, s, h⟩ := mov_legal (Q := (P.1, sM P.2 (flM w P.2.length))) hv2.2.1 (fun a ha => hle.1 a (hsl.2 a ha)) hXs (hle.2 _ hX)
  have h3 := (ren_legal (rn_cn (L := P.1) hD)).mpr h
  exact ⟨f2, u, i, v, j, s, h3, z _ _ _ _ _ _ h3⟩
end SP
def xsK (l : List (Nat × Nat)) : Nat := l.foldl (fun x k => x ^^^ val (kP k.1 k.2)) 0
theorem xsK_s {l : List (Nat × Nat)} {k : Nat × Nat} : xsK (l ++ [k]) = xsK l ^^^ val (kP k.1 k.2) := by
  unfold xsK
  rw [List.foldl_append]
  rfl
theorem xsK_f : ∀ {l : List (Nat × Nat)} {x : Nat}, l.foldl (fun x k => x ^^^ val (kP k.1 k.2)) x = x ^^^ xsK l
  | [], x => by simp [xsK]
  | k :: l, x => by
    have h1 := xsK_f (l := l) (x := x ^^^ val (kP k.1 k.2))
    have h2 := xsK_f (l := l) (x := 0 ^^^ val (kP k.1 k.2))
    rw [List.foldl_cons, h1]
    unfold xsK
    rw [List.foldl_cons, h2, Nat.zero_xor, Nat.xor_assoc]
    rfl
def kyR (ph pl : Nat → Int64) (off : Nat) (ks : List (Nat × Nat)) : Prop := ∀ i k, ks[i]? = some k → ph (off + i) = lN k.1 ∧ pl (off + i) = lN k.2
set_option maxHeartbeats 2000000 in
theorem wd_of {sc : ipSc} {n : Nat} (WK : WKs sc n) : WDs sc n := by
  intro d z S dep pc h P H HD hv hle hn hdep
  have hC := lean_cor hv hle hn
  have hC18 : (pC P).length ≤ 18 := by omega
  obtain ⟨c1, ⟨fl, tm, fi, la, lk, c2⟩, c3, c4, c5, c6, c7, c8, c9, c10, c11, c12⟩ := id H
  obtain ⟨-, sa, wf, ff, lf, hps, r1, r2, r3, r4, k1, k2, k3, k4⟩ := id HD
  rw [bW_c] at k2
  simp only at k3 k4
  have hW : (pW P).length ≤ 31 := k2
  generalize hQ : sQ S dep (5 * dep) h z (val P) = Q0
  refine ipC_mk [some (.ref S), some (.int (nI dep)), none, none, none, none, none] rfl (Nat.le_of_ble_eq_true rfl) ?_
  refine c68_0 c1 rfl rfl c2.1 (Nat.zero_le _) (Nat.zero_le _) (t_read (d := d + 2 * n + 5) c2 HD (Or.inr (by omega)) hv.1) ?_
  rintro o h2 z2 ⟨rfl, rfl, hf2, tm2, fi2, la2, lk2, fN, lN2, T2, S2⟩
  have hp24 : 2 ^ P.2.length ≤ 2 ^ 24 := Nat.pow_le_pow_right (by decide) k3
  obtain ⟨s1, s2, s3, s4, s5, s6, s7, s8, s9⟩ := id S2
  have hprl : (prF P.2 P.2.length).length < 200 := by
    have h := congrArg List.length (prF_fst (F := P.2) (n := P.2.length) (Nat.le_refl _))
    rw [List.length_map, List.take_length] at h
    have : P.2.flatten.flatten.length = (pC P).length := rfl
    omega
  have htN : ∀ a, a < P.1.length → tm2 a = nI ((pC P).count a) ∧ (pC P).count a < 200 := fun a ha => by
    rw [s1 a ha, cnt_prF]
    exact ⟨rfl, Nat.lt_of_le_of_lt List.count_le_length (by omega)⟩
  have hlvA : lvM P.1 (prF P.2 P.2.length) fN (2 ^ P.2.length - 1) P.1.length ≤ P.1.sum := by
    have hca : clsd lN2 (2 ^ P.2.length - 1) := fun f hf i hi => by
      have hfl := bit_hi (n := P.2.length) (by have := Nat.two_pow_pos P.2.length; omega) hf
      rw [Nat.testBit_two_pow_sub_one]
      exact decide_eq_true (s7 f i hfl hi)
    rw [lvM_sum S2 (by have := Nat.two_pow_pos P.2.length; omega) hca (fun a => ddF_mem (l := (sM P.2 (flM (2 ^ P.2.length - 1) P.2.length)).flatten.flatten))]
    refine Nat.le_trans (sD_le _ (Nat.le_refl _)) ?_
    rw [List.take_length]
    exact Nat.le_refl _
  -- the keys' worths
  have sums : ∀ (m i acc : Nat) (ks : List (Nat × Nat)) (h3 : HP) (o3 o6 : Option Value), i + m = ks.length → ks.length ≤ 5 → slv h3 S → sfr S dep (5 * dep) h h3 → (ks = [] ∨ dep ≤ 8) → (∀ k ∈ ks, keyOK k.1 k.2 n) → (∃ ph pl, h3 (S + 26) = some (.inl (1, 50, .inr (.inl ph))) ∧ h3 (S + 27) = some (.inl (1, 50, .inr (.inl pl))) ∧ kyR ph pl (5 * dep) ks) → acc ^^^ xsK (ks.drop i) = val P → ip sc (ipC sc (d + 2 * n + 7)) 68 0 0 Q0 130 [some (.ref S), some (.int (nI dep)), some (.int (nI acc)), o3, some (.int (nI (5 * dep + ks.length))), some (.int (nI (5 * dep + i))), o6] [] h3 z2 0 0 := by
    intro m
    induction m with
    | zero =>
      intro i acc ks h3 o3 o6 him hk5 H3 hf3 hd8 hko hky hacc
      refine c68_130 (by omega) (by omega) (fun _ => c68_165 ?_) (fun r => absurd (by omega) r)
      rw [List.drop_eq_nil_of_le (by omega)] at hacc
      have hacc : acc = val P := by rw [← hacc]; simp [xsK]
      rw [← hQ, hacc]
      exact ⟨rfl, rfl, hf3, H3⟩
    | succ m ih =>
      intro i acc ks h3 o3 o6 him hk5 H3 hf3 hd8 hko hky hacc
      obtain ⟨ph, pl, e1, e2, ek⟩ := hky
      obtain ⟨k, hk⟩ := gt_some (l := ks) (i := i) (by omega)
      obtain ⟨a1, a2⟩ := ek i k hk
      have hd8 : dep ≤ 8 := by
        rcases hd8 with q | q
        · rw [q] at hk; cases hk
        · exact q
      refine c68_130 (by omega) (by omega) (fun r => absurd r (by omega)) (fun _ => ?_)
      refine c68_137 H3.1 rfl e1 (by omega) (by decide) rfl e2 (by omega) (by decide) (Nat.zero_le _) (Nat.zero_le _) (by rw [a1, a2]; exact WK d z2 S dep h3 k.1 k.2 H3 (hko k (List.mem_of_getElem? hk)) hdep hd8) ?_
      rintro o h4 z4 ⟨rfl, rfl, hf4, H4⟩
      obtain ⟨ph2, f1, f2⟩ := hf4.2.2.1 ph e1
      obtain ⟨pl2, f3, f4⟩ := hf4.2.2.2 pl e2
      refine c68_157 ?_
      rw [nI_xor]
      refine ih (i + 1) (acc ^^^ val (kP k.1 k.2)) ks h4 o3 o6 (by omega) hk5 H4 (hf3.tr (hf4.le (Nat.le_refl _) (by omega))) (Or.inr hd8) hko ⟨ph2, pl2, f1, f3, fun j k2 hj => ?_⟩ ?_
      · have hjl := lt_some hj
        obtain ⟨b1, b2⟩ := ek j k2 hj
        exact ⟨by rw [f2 _ (by omega)]; exact b1, by rw [f4 _ (by omega)]; exact b2⟩
      · rw [← hacc, drop_cons hk]
        have : xsK (k :: ks.drop (i + 1)) = val (kP k.1 k.2) ^^^ xsK (ks.drop (i + 1)) := by
          unfold xsK
          rw [List.foldl_cons, xsK_f, Nat.zero_xor]
          rfl
        rw [this, Nat.xor_assoc]
  -- the parts
  have parts : ∀ (m k v acc : Nat) (ks : List (Nat × Nat)) (h3 : HP) (o6 : Option Value), k + m = 5 → ks.length ≤ k → v < 2 ^ P.2.length → clsd lN2 v → lvM P.1 (prF P.2 P.2.length) fN v P.1.length + 2 * k ≤ n → slv h3 S → ptA h3 (S + 1) (nI v) tm2 fi2 la2 lk2 → plIs h3 (S + 19) 1 pc P → sfr S dep (5 * dep) h h3 → (ks = [] ∨ dep ≤ 8) → (∀ k ∈ ks, keyOK k.1 k.2 n) → (∃ ph pl, h3 (S + 26) = some (.inl (1, 50, .inr (.inl ph))) ∧ h3 (S + 27) = some (.inl (1, 50, .inr (.inl pl))) ∧ kyR ph pl (5 * dep) ks) → acc ^^^ xsK ks ^^^ val (P.1, sM P.2 (flM v P.2.length)) = val P → ip sc (ipC sc (d + 2 * n + 7)) 68 0 0 Q0 23 [some (.ref S), some (.int (nI dep)), some (.int (nI acc)), some (.int (nI (5 * dep))), some (.int (nI (5 * dep + ks.length))), some (.int (nI k)), o6] [] h3 z2 0 0 := by
    intro m
    induction m with
    | zero =>
      intro k v acc ks h3 o6 hk hkk hv2 hcv hlv H3 T3 HP3 hf3 hd8 hko hky hacc
      omega
    | succ m ih =>
      intro k v acc ks h3 o6 hk hkk hv2 hcv hlv H3 T3 HP3 hf3 hd8 hko hky hacc
      have hob := HP3.ob
      refine c68_23 (by omega) (fun r => absurd r (by omega)) (fun _ => ?_)
      refine c68_29 (v_fs5_7 := P.2.length) H3.1 rfl rfl hob rfl T3.1 (Nat.zero_le _) (Nat.zero_le _) (t_nextPart (d := d + 2 * n + 6) T3 s4 k3 hv2 hcv) ?_
      rintro o h4 z4 ⟨rfl, w, rfl, hwv, hw0, hcw, hf4, T4⟩
      have hwl := sub_lt hwv hv2
      have H4 : slv h4 S := H3.pt hf4 ⟨_, _, _, _, _, T4⟩
      have HP4 : plIs h4 (S + 19) 1 pc P := HP3.off fun x a b => hf4 x (by omega)
      have hf4s : sfr S dep (5 * dep) h h4 := hf3.tr (.of (by omega) fun x hx => hf4 x (by omega))
      have hky4 : ∃ ph pl, h4 (S + 26) = some (.inl (1, 50, .inr (.inl ph))) ∧ h4 (S + 27) = some (.inl (1, 50, .inr (.inl pl))) ∧ kyR ph pl (5 * dep) ks := by
        obtain ⟨ph, pl, e1, e2, ek⟩ := hky
        exact ⟨ph, pl, by rw [hf4 _ (by omega)]; exact e1, by rw [hf4 _ (by omega)]; exact e2, ek⟩
      by_cases e0 : w = 0
      · have hv0 : v = 0 := Classical.byContradiction fun q => hw0 q e0
        refine c68_43 (by omega) (fun r => absurd e0 r) (fun _ => c68_50 (c68_127 ?_))
        have hacc2 : acc ^^^ xsK (ks.drop 0) = val P := by
          rw [← hacc, hv0, flM_zero, List.drop_zero]
          have : val (P.1, sM P.2 []) = 0 := val_nil
          rw [this, Nat.xor_zero]
        have := sums ks.length 0 acc ks h4 (some (.int (nI (5 * dep)))) (some (.int (nI w))) (by omega) (by omega) H4 hf4s hd8 hko hky4 hacc2
        rw [Nat.add_zero] at this
        exact this
      · have h2w := lvM_two hv hle S2 hwl hcw e0
        have hsp := lvM_split (L := P.1) (pr := prF P.2 P.2.length) (fN := fN) hwv P.1.length
        have hvs := val_split hv (by omega) S2 hwv hcw
        have hdl : v ^^^ (v &&& w) < 2 ^ P.2.length := sub_lt (fun i q => (diff_tb.mp q).1) hv2
        have hcd := clsd_diff S2 hv2 hcv hcw
        have hlw3 : lvM P.1 (prF P.2 P.2.length) fN w P.1.length ≤ 9 := by omega
        refine c68_43 (by omega) (fun _ => ?_) (fun r => absurd (Decidable.not_not.mp r) e0)
        refine c68_53 H4.1 rfl rfl T4.1 (Nat.zero_le _) (Nat.zero_le _) (t_livesOfP (d := d + 2 * n + 6) T4 S2 hprl HP4 hv.1 (by omega)) (kI ?_)
        refine c68_66 (by omega) (fun r => ?_) (fun r => ?_)
        · obtain ⟨sg, fr, wr, tx, so, tu, wk, en, nr, wc, hi, lo, N4⟩ := H4.2.2.1
          refine c68_77 H4.1 rfl rfl N4.1 (Nat.zero_le _) (Nat.zero_le _) (t_name (d := d + 2 * n + 2) (tN := fun a => (pC P).count a) N4 T4 (Or.inl (by omega)) htN HP4 (Or.inr (by omega)) hv hle (by omega) (by omega) hwl) ?_
          rintro o h5 z5 ⟨rfl, rfl, hf5, V, sg5, fr5, wr5, tx5, so5, tu5, wk5, en5, nr5, wc5, hwlk, N5⟩
          obtain ⟨kok, kval⟩ := key_val hv hle (by omega) (by omega) hW hwlk (tN := fun a => (pC P).count a) (fun a => rfl)
          have H5 : slv h5 S := H4.nm hf5 ⟨_, _, _, _, _, _, _, _, _, _, _, _, N5⟩
          have T5 : ptA h5 (S + 1) (nI (v ^^^ (v &&& w))) tm2 fi2 la2 lk2 := T4.off fun x a b => hf5 x (by omega)
          have HP5 : plIs h5 (S + 19) 1 pc P := HP4.off fun x a b => hf5 x (by omega)
          obtain ⟨ph, pl, e1, e2, ek⟩ := hky4
          have e1 : h5 (S + 26) = some (.inl (1, 50, .inr (.inl ph))) := by rw [hf5 _ (by omega)]; exact e1
          have e2 : h5 (S + 27) = some (.inl (1, 50, .inr (.inl pl))) := by rw [hf5 _ (by omega)]; exact e2
          refine c68_90 H5.1 rfl rfl N5.1 rfl e1 (by omega) (by decide) rfl (by omega) rfl (by omega) rfl e2 (by omega) (by omega) (by decide) rfl (c68_121 ?_)
          generalize hN1 : ncd ((kyC P.1 (fun a => (pC P).count a) V).take 10) = N1 at kok kval
          generalize hN2 : ncd ((kyC P.1 (fun a => (pC P).count a) V).drop 10) = N2 at kok kval
          have kmono : keyOK N1 N2 n := ⟨kok.1, kok.2.1, kok.2.2.1, kok.2.2.2.1, kok.2.2.2.2.1, kok.2.2.2.2.2.1, Nat.le_trans kok.2.2.2.2.2.2 hn⟩
          have hfk : ∀ x, x < S + 26 ∨ S + 28 ≤ x → (hup (hup h5 (S + 26) (.inl (1, 50, .inr (.inl (vp_updL ph (5 * dep + ks.length) (lN N1)))))) (S + 27) (.inl (1, 50, .inr (.inl (vp_updL pl (5 * dep + ks.length) (lN N2)))))) x = h5 x := fun x hx => hup_ne (by omega) (hup_ne (by omega) rfl)
          have := ih (k + 1) (v ^^^ (v &&& w)) acc (ks ++ [(N1, N2)]) (hup (hup h5 (S + 26) (.inl (1, 50, .inr (.inl (vp_updL ph (5 * dep + ks.length) (lN N1)))))) (S + 27) (.inl (1, 50, .inr (.inl (vp_updL pl (5 * dep + ks.length) (lN N2)))))) (some (.int (nI w))) (by omega) (by rw [List.length_append]; show ks.length + 1 ≤ _; omega) hdl hcd (by omega) (H5.ky hfk ⟨_, hup_ne (by omega) hup_eq⟩ ⟨_, hup_eq⟩) (T5.off fun x a b => hfk x (by omega)) (HP5.off fun x a b => hfk x (by omega)) ?_ (Or.inr (by omega)) ?_ ⟨_, _, hup_ne (by omega) hup_eq, hup_eq, ?_⟩ ?_
          · rw [List.length_append] at this
            exact this
          · refine (hf4s.tr (.of (by omega) fun x hx => hf5 x (by omega))).tr ⟨fun x hx => hfk x (by omega), fun x a b => hfk x (by omega), fun p e => ?_, fun p e => ?_⟩
            · rw [e1] at e
              injection e with e; injection e with e; injection e with e e; injection e with e e; injection e with e; injection e with e
              subst e
              exact ⟨_, hup_ne (by omega) hup_eq, fun j hj => pk_uLn (by omega)⟩
            · rw [e2] at e
              injection e with e; injection e with e; injection e with e e; injection e with e e; injection e with e; injection e with e
              subst e
              exact ⟨_, hup_eq, fun j hj => pk_uLn (by omega)⟩
          · intro k2 hk2
            rcases List.mem_append.mp hk2 with hk2 | hk2
            · exact hko k2 hk2
            · rw [List.mem_singleton.mp hk2]; exact kmono
          · intro i k2 hi
            by_cases q : i < ks.length
            · rw [List.getElem?_append_left q] at hi
              obtain ⟨b1, b2⟩ := ek i k2 hi
              exact ⟨by rw [pk_uLn (by omega)]; exact b1, by rw [pk_uLn (by omega)]; exact b2⟩
            · have hil := lt_some hi
              rw [List.length_append] at hil
              have hil : i < ks.length + 1 := hil
              have ei : i = ks.length := by omega
              subst ei
              rw [List.getElem?_append_right (Nat.le_refl _), Nat.sub_self] at hi
              have := Option.some.inj hi
              rw [← this]
              exact ⟨pk_uLs, pk_uLs⟩
          · rw [xsK_s, ← hacc, hvs, kval]
            simp only [Nat.xor_assoc]
        · have r := Decidable.not_not.mp r
          have hv1 := val_pair hv hle S2 hwl hcw e0 r
          refine c68_70 ?_
          rw [nI_xor]
          refine c68_121 (ih (k + 1) (v ^^^ (v &&& w)) (acc ^^^ 1) ks h4 _ (by omega) (by omega) hdl hcd (by omega) H4 T4 HP4 hf4s hd8 hko hky4 ?_)
          rw [← hacc, hvs, hv1]
          simp only [Nat.xor_assoc]
          congr 1
          rw [← Nat.xor_assoc, ← Nat.xor_assoc, Nat.xor_comm 1]
  refine c68_20 ?_
  have H2 : slv h2 S := H.pt hf2 ⟨_, _, _, _, _, T2⟩
  have HP2 : plIs h2 (S + 19) 1 pc P := HD.off fun x a b => hf2 x (by omega)
  have hpos := Nat.two_pow_pos P.2.length
  have hca : clsd lN2 (2 ^ P.2.length - 1) := fun f hf i hi => by
    have hfl := bit_hi (n := P.2.length) (by omega) hf
    rw [Nat.testBit_two_pow_sub_one]
    exact decide_eq_true (s7 f i hfl hi)
  obtain ⟨ph, e1⟩ := H2.2.2.2.2.2.2.2.1
  obtain ⟨pl, e2⟩ := H2.2.2.2.2.2.2.2.2.1
  have := parts 5 0 (2 ^ P.2.length - 1) 0 [] h2 none (by omega) (Nat.le_refl _) (by omega) hca (by omega) H2 T2 HP2 (.of (by omega) fun x hx => hf2 x (by omega)) (Or.inl rfl) (fun k hk => (by cases hk)) ⟨ph, pl, e1, e2, fun i k hi => (by cases hi)⟩ (by
    rw [flM_all]
    have : sM P.2 (List.range P.2.length) = P.2 := by
      unfold sM
      refine List.ext_getElem? fun k => ?_
      rw [List.getElem?_map]
      by_cases q : k < P.2.length
      · rw [List.getElem?_range q, gD (d := []) q]
        rfl
      · rw [List.getElem?_eq_none (by rw [List.length_range]; omega), List.getElem?_eq_none (by omega)]
        rfl
    rw [this]
    simp [xsK])
  rw [Nat.mul_comm dep 5]
  exact this
