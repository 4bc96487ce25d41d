/-! the pieces behind a move -/
def ext (g : Nat → Nat) (c k : Nat) : Nat → Nat := fun s => if s = c then k else g s
theorem ext_c {g : Nat → Nat} {c k : Nat} : ext g c k c = k := if_pos rfl
theorem ext_n {g : Nat → Nat} {c k s : Nat} (h : s ≠ c) : ext g c k s = g s := if_neg h
theorem cntF_ext {g : Nat → Nat} {n k : Nat} (hk : k < n) : cntF (ext g n k) (n + 1) = cntF g n := by
  show cntF (ext g n k) n + (if ext g n k n = n then 1 else 0) = _
  rw [ext_c, if_neg (by omega), Nat.add_zero]
  exact cntF_congr fun s hs => ext_n (by omega)
def cW (χ : Nat → Bool) (P : PosT) : Prop := ∀ x ∈ pW P, ∀ a ∈ x, ∀ b ∈ x, χ a = χ b
theorem pcs_gen {P P2 : PosT} {g : Nat → Nat} {a c : Nat} (Z : Nat → Prop) (hl : P2.1.length = c + 1) (hok : ∀ w ∈ pW P, ∀ q ∈ w, q < c) (hx : fix c g) (ha : a < c) (hcst : ∀ w ∈ pW P, ∀ q ∈ w, ∀ r ∈ w, g q = g r) (hZ : ∀ q, Z q → q < c ∧ g q = g a) (hZa : Z a) (h1 : ∀ w ∈ pW P2, w ∈ pW P ∨ ∀ q ∈ w, Z q ∨ q = c) (hχ : ∀ χ : Nat → Bool, cW χ P2 → ∀ q, Z q → χ q = χ c) (h2 : ∀ w ∈ pW P, (∀ q ∈ w, Z q) ∨ w ∈ pW P2) (hg : ∀ χ : Nat → Bool, cW χ P → (∀ q r, Z q → Z r → χ q = χ r) → ∀ s, s < c → χ s = χ (g s)) : good P2 (ext g c (g a)) := by
  have hk := hx.lt ha
  have hfix : fix (c + 1) (ext g c (g a)) := fun s hs => by
    by_cases e : s = c
    · subst e
      rw [ext_c, ext_n (by omega)]
      exact ⟨by omega, (hx a ha).2⟩
    · have h3 := hx s (by omega)
      have h4 := hx.lt (show s < c by omega)
      rw [ext_n e, ext_n (by omega)]
      exact h3
  refine ⟨by rw [hl]; exact hfix, fun w hw q hq r hr => ?_, fun χ hc s hs => ?_⟩
  · rcases h1 w hw with e | e
    · have q1 := hok w e q hq
      have q2 := hok w e r hr
      rw [ext_n (by omega), ext_n (by omega)]
      exact hcst w e q hq r hr
    · have all : ∀ q ∈ w, ext g c (g a) q = g a := fun q hq => by
        rcases e q hq with k | k
        · have := hZ q k
          rw [ext_n (by omega)]
          exact this.2
        · rw [k, ext_c]
      rw [all q hq, all r hr]
  · have z1 := hχ χ hc
    have hcP : cW χ P := fun w hw q hq r hr => by
      rcases h2 w hw with e | e
      · rw [z1 q (e q hq), z1 r (e r hr)]
      · exact hc w e q hq r hr
    have h5 := hg χ hcP (fun q r hq hr => by rw [z1 q hq, z1 r hr])
    by_cases e : s = c
    · subst e
      rw [ext_c, ← h5 a ha, z1 a hZa]
    · rw [ext_n e]
      exact h5 s (by omega)
theorem cntF_tog {g : Nat → Nat} {a b N : Nat} (hx : fix N g) (ha : a < N) (hb : b < N) (hab : g a ≠ g b) : ∀ n, cntF (tog g a b) n + (if max (g a) (g b) < n then 1 else 0) = cntF g n
  | 0 => rfl
  | n + 1 => by
    have ih := cntF_tog hx ha hb hab n
    have a2 := (hx a ha).2
    have b2 := (hx b hb).2
    have hM : g (max (g a) (g b)) = max (g a) (g b) := by
      rcases Nat.le_total (g a) (g b) with q | q
      · rw [Nat.max_eq_right q]; exact b2
      · rw [Nat.max_eq_left q]; exact a2
    have hm : g (min (g a) (g b)) = min (g a) (g b) := by
      rcases Nat.le_total (g a) (g b) with q | q
      · rw [Nat.min_eq_left q]; exact a2
      · rw [Nat.min_eq_right q]; exact b2
    have hne : min (g a) (g b) ≠ max (g a) (g b) := by omega
    show cntF (tog g a b) n + (if tog g a b n = n then 1 else 0) + _ = cntF g n + (if g n = n then 1 else 0)
    by_cases e : n = max (g a) (g b)
    · have t1 : tog g a b n = min (g a) (g b) := by
        show (if _ then _ else _) = _
        rw [if_pos (by rw [e]; exact hM)]
      rw [t1, if_neg (by omega), if_pos (by omega), if_pos (by rw [e]; exact hM)]
      rw [if_neg (by omega)] at ih
      omega
    · have e3 : (if tog g a b n = n then 1 else 0) = (if g n = n then (1 : Nat) else 0) := by
        by_cases e4 : g n = max (g a) (g b)
        · have t1 : tog g a b n = min (g a) (g b) := by
            show (if _ then _ else _) = _
            rw [if_pos e4]
          rw [t1, if_neg, if_neg (by omega)]
          intro q
          rw [q] at hm
          omega
        · have t1 : tog g a b n = g n := by
            show (if _ then _ else _) = _
            rw [if_neg e4]
          rw [t1]
      have e5 : (if max (g a) (g b) < n + 1 then 1 else 0) = (if max (g a) (g b) < n then (1 : Nat) else 0) := by
        by_cases e6 : max (g a) (g b) < n
        · rw [if_pos e6, if_pos (by omega)]
        · rw [if_neg e6, if_neg (by omega)]
      rw [e3, e5]
      omega
theorem rnd_sub {lv x : List Nat} {i a : Nat} (hi : x[i]? = some a) (hl : lv.getD a 0 = 3 → x.length = 1) {q : Nat} (hq : q ∈ x) : q ∈ rnd lv x i := (rnd_perm hi hl).symm.subset (List.mem_append_left _ hq)
theorem pcs_mv {P : PosT} {f u i v j s k : Nat} (hL : legal P f u i v j s) (hok : posOK P) (hlo : lone P) (hT : tree P.2) (hp : pcs P k) : pcs (doMv P f u i v j s) (if u = v then k else k - 1) ∧ (u ≠ v → 1 ≤ k) := by
  have hsp : ∀ w ∈ pW P, ∀ q ∈ w, q < P.1.length := fun w hw q hq => hok.1 q (List.mem_flatten.mpr ⟨w, hw, hq⟩)
  obtain ⟨g, hg, rfl⟩ := hp
  obtain ⟨G1, G2, a, b, hf, hcm, ⟨X1, X2, X3, x, y, hP, hu, hv, hi, hj⟩ | ⟨X1, X2, x, rfl, hP, hu, hi, hj, hij, hs⟩⟩ := legal_split hL
  · have e := doMv_m (s := s) hP hf hu hv hi hj
    have hxm : x ∈ pW P := by unfold pW; rw [hP]; simp
    have hym : y ∈ pW P := by unfold pW; rw [hP]; simp
    have ax := List.mem_of_getElem? hi
    have bx := List.mem_of_getElem? hj
    have ha := hsp x hxm a ax
    have hb := hsp y hym b bx
    have hne : u ≠ v := by omega
    obtain ⟨χ, t1, t2, t3⟩ := tree_two hT hP
    have hab : g a ≠ g b := fun q => by
      have r1 := hg.2.2 χ t1 a ha
      have r2 := hg.2.2 χ t1 b hb
      rw [t2 a ax, q] at r1
      rw [t3 b bx, ← r1] at r2
      cases r2
    have hcnt := cntF_tog hg.1 ha hb hab P.1.length
    have ga := hg.1.lt ha
    have gb := hg.1.lt hb
    rw [if_pos (by omega)] at hcnt
    rw [if_neg hne]
    refine ⟨⟨ext (tog g a b) P.1.length (tog g a b a), ?_, ?_⟩, fun _ => by omega⟩
    · have tf := tog_fix hg.1 ha hb
      have hgx : ∀ q ∈ x, g q = g a := fun q hq => hg.2.1 x hxm q hq a ax
      have hgy : ∀ q ∈ y, g q = g b := fun q hq => hg.2.1 y hym q hq b bx
      refine pcs_gen (P := P) (fun q => q ∈ x ∨ q ∈ y) (by rw [e]; exact lvA_len) hsp tf ha (fun w hw q hq r hr => tog_eq (hg.2.1 w hw q hq r hr)) (fun q hq => ?_) (Or.inl ax) (fun w hw => ?_) (fun χ hc q hq => ?_) (fun w hw => ?_) (fun χ hc hz => ?_)
      · rcases hq with r | r
        · exact ⟨hsp x hxm q r, tog_eq (hgx q r)⟩
        · exact ⟨hsp y hym q r, (tog_eq (hgy q r)).trans tog_same.symm⟩
      · rw [e] at hw
        have hw : w ∈ (G1 ++ (X1 ++ (rnd P.1 x i ++ [P.1.length] ++ rnd P.1 y j ++ [P.1.length]) :: (X2 ++ X3)) :: G2).flatten := hw
        have hw2 : w = (rnd P.1 x i ++ [P.1.length] ++ rnd P.1 y j ++ [P.1.length]) ∨ w ∈ pW P := by
          unfold pW
          rw [hP]
          simp only [List.flatten_append, List.flatten_cons, List.mem_append, List.mem_cons] at hw ⊢
          rcases hw with r | (r | r | r | r) | r
          all_goals first | exact Or.inl r | (simp [r]; done)
        rcases hw2 with r | r
        · right
          intro q hq
          rw [r] at hq
          simp only [List.mem_append, List.mem_singleton] at hq
          rcases hq with ((r | r) | r) | r
          · exact Or.inl (Or.inl (rnd_mem r))
          · exact Or.inr r
          · exact Or.inl (Or.inr (rnd_mem r))
          · exact Or.inr r
        · exact Or.inl r
      · have hW : (rnd P.1 x i ++ [P.1.length] ++ rnd P.1 y j ++ [P.1.length]) ∈ pW (doMv P f u i v j s) := by
          rw [e]
          unfold pW
          simp
        refine hc _ hW q ?_ _ (by simp)
        rcases hq with r | r
        · have := rnd_sub hi (fun q => (hlo x hxm).2 a ax q) r
          simp [this]
        · have := rnd_sub hj (fun q => (hlo y hym).2 b bx q) r
          simp [this]
      · have hw2 : w = x ∨ w = y ∨ w ∈ pW (doMv P f u i v j s) := by
          rw [e]
          unfold pW at hw ⊢
          rw [hP] at hw
          simp only [List.flatten_append, List.flatten_cons, List.mem_append, List.mem_cons] at hw ⊢
          rcases hw with r | (r | r | r | r | r) | r
          all_goals first | exact Or.inl r | exact Or.inr (Or.inl r) | (simp [r]; done)
        rcases hw2 with r | r | r
        · exact Or.inl fun q hq => Or.inl (by rw [← r]; exact hq)
        · exact Or.inl fun q hq => Or.inr (by rw [← r]; exact hq)
        · exact Or.inr r
      · exact tog_chi (hg.2.2 χ hc) ha hb (hz a b (Or.inl ax) (Or.inr bx))
    · have e1 : (doMv P f u i v j s).1.length = P.1.length + 1 := by rw [e]; exact lvA_len
      rw [e1, cntF_ext ((tog_fix hg.1 ha hb).lt ha)]
      omega
  · have e := doMv_s (s := s) hP hf hu hi hj
    have hxm : x ∈ pW P := by unfold pW; rw [hP]; simp
    have ax := List.mem_of_getElem? hi
    have bx := List.mem_of_getElem? hj
    have ha := hsp x hxm a ax
    rw [if_pos rfl]
    refine ⟨⟨ext g P.1.length (g a), ?_, ?_⟩, fun q => absurd rfl q⟩
    · have hgx : ∀ q ∈ x, g q = g a := fun q hq => hg.2.1 x hxm q hq a ax
      have hpk := pk_perm (X1 ++ X2) s
      have w1m : ((x.drop i).take (j + 1 - i) ++ [P.1.length]) ∈ pW (doMv P f v i v j s) := by
        rw [e]
        unfold pW
        simp
      have w2m : ((if i = j then rnd P.1 x i else x.drop j ++ x.take (i + 1)) ++ [P.1.length]) ∈ pW (doMv P f v i v j s) := by
        rw [e]
        unfold pW
        simp
      have hin : ∀ w ∈ pW (doMv P f v i v j s), w = ((x.drop i).take (j + 1 - i) ++ [P.1.length]) ∨ w = ((if i = j then rnd P.1 x i else x.drop j ++ x.take (i + 1)) ++ [P.1.length]) ∨ w ∈ pW P := by
        intro w hw
        rw [e] at hw
        unfold pW at hw ⊢
        rw [hP]
        have h6 : w ∈ pk 0 s (X1 ++ X2) ∨ w ∈ pk 1 s (X1 ++ X2) → w ∈ X1 ++ X2 := fun r => hpk.subset (List.mem_append.mpr r)
        generalize ((x.drop i).take (j + 1 - i) ++ [P.1.length]) = w1 at hw ⊢
        generalize ((if i = j then rnd P.1 x i else x.drop j ++ x.take (i + 1)) ++ [P.1.length]) = w2 at hw ⊢
        simp only [List.flatten_append, List.flatten_cons, List.flatten_nil, List.append_nil, List.mem_append, List.mem_cons] at hw h6 ⊢
        rcases hw with (r | (r | r) | r) | r | r
        · simp [r]
        · exact Or.inl r
        · rcases h6 (Or.inl r) with q | q <;> simp [q]
        · simp [r]
        · exact Or.inr (Or.inl r)
        · rcases h6 (Or.inr r) with q | q <;> simp [q]
      have hout : ∀ w ∈ pW P, w = x ∨ w ∈ pW (doMv P f v i v j s) := by
        intro w hw
        rw [e]
        unfold pW at hw ⊢
        rw [hP] at hw
        have h6 : w ∈ X1 ++ X2 → w ∈ pk 0 s (X1 ++ X2) ∨ w ∈ pk 1 s (X1 ++ X2) := fun r => List.mem_append.mp (hpk.symm.subset r)
        generalize ((x.drop i).take (j + 1 - i) ++ [P.1.length]) = w1 at hw ⊢
        generalize ((if i = j then rnd P.1 x i else x.drop j ++ x.take (i + 1)) ++ [P.1.length]) = w2 at hw ⊢
        simp only [List.flatten_append, List.flatten_cons, List.flatten_nil, List.append_nil, List.mem_append, List.mem_cons] at hw h6 ⊢
        rcases hw with r | (r | r | r) | r
        · simp [r]
        · rcases h6 (Or.inl r) with q | q <;> simp [q]
        · exact Or.inl r
        · rcases h6 (Or.inr r) with q | q <;> simp [q]
        · simp [r]
      have hsub : ∀ q ∈ x, q ∈ ((x.drop i).take (j + 1 - i) ++ [P.1.length]) ∨ q ∈ ((if i = j then rnd P.1 x i else x.drop j ++ x.take (i + 1)) ++ [P.1.length]) := by
        intro q hq
        by_cases ej : i = j
        · right
          rw [if_pos ej]
          exact List.mem_append_left _ (rnd_sub hi (fun q => (hlo x hxm).2 a ax q) hq)
        · rw [if_neg ej]
          have := (two_perm hi hj (by omega)).symm.subset (List.mem_append_left _ hq)
          rcases List.mem_append.mp this with r | r
          · exact Or.inl (List.mem_append_left _ r)
          · exact Or.inr (List.mem_append_left _ r)
      refine pcs_gen (P := P) (fun q => q ∈ x) (by rw [e]; exact lvA_len) hsp hg.1 ha hg.2.1 (fun q hq => ⟨hsp x hxm q hq, hgx q hq⟩) ax (fun w hw => ?_) (fun χ hc q hq => ?_) (fun w hw => ?_) (fun χ hc _ => hg.2.2 χ hc)
      · rcases hin w hw with r | r | r
        · right
          intro q hq
          rw [r] at hq
          rcases List.mem_append.mp hq with r | r
          · exact Or.inl (List.mem_of_mem_drop (List.mem_of_mem_take r))
          · exact Or.inr (by simpa using r)
        · right
          intro q hq
          rw [r] at hq
          rcases List.mem_append.mp hq with r | r
          · left
            split at r
            · exact rnd_mem r
            · rcases List.mem_append.mp r with r | r
              · exact List.mem_of_mem_drop r
              · exact List.mem_of_mem_take r
          · exact Or.inr (by simpa using r)
        · exact Or.inl r
      · rcases hsub q hq with r | r
        · exact hc _ w1m q r _ (by simp)
        · exact hc _ w2m q r _ (by simp)
      · rcases hout w hw with r | r
        · exact Or.inl fun q hq => by rw [← r]; exact hq
        · exact Or.inr r
    · have e1 : (doMv P f v i v j s).1.length = P.1.length + 1 := by rw [e]; exact lvA_len
      rw [e1, cntF_ext (hg.1.lt ha)]
