/-! other numbers of the spots -/
def ren (σ : Nat → Nat) (F : List (List (List Nat))) : List (List (List Nat)) := F.map (List.map (List.map σ))
def rn (σ : Nat → Nat) (P Q : PosT) : Prop := Q.2 = ren σ P.2 ∧ (∀ a ∈ pC P, ∀ b ∈ pC P, σ a = σ b → a = b) ∧ ∀ a ∈ pC P, Q.1.getD (σ a) 0 = P.1.getD a 0
theorem getD_mp {α β : Type} {g : α → β} {l : List α} {k : Nat} {d : α} {e : β} (h : e = g d) : (l.map g).getD k e = g (l.getD k d) := by
  rw [List.getD_eq_getElem?_getD, List.getD_eq_getElem?_getD, List.getElem?_map, h]
  cases l[k]? <;> rfl
theorem ren_f {σ : Nat → Nat} {P Q : PosT} (h : rn σ P Q) {f : Nat} : Q.2.getD f [] = (P.2.getD f []).map (List.map σ) := by rw [h.1]; exact getD_mp rfl
theorem ren_w {σ : Nat → Nat} {P Q : PosT} (h : rn σ P Q) {f u : Nat} : (Q.2.getD f []).getD u [] = ((P.2.getD f []).getD u []).map σ := by rw [ren_f h]; exact getD_mp rfl
theorem ren_fl {σ : Nat → Nat} {P Q : PosT} (h : rn σ P Q) {f : Nat} : fl Q f = fl P f := by unfold fl; rw [ren_f h, List.length_map]
theorem ren_wl {σ : Nat → Nat} {P Q : PosT} (h : rn σ P Q) {f u : Nat} : wl Q f u = wl P f u := by unfold wl; rw [ren_w h, List.length_map]
theorem pC_ren {σ : Nat → Nat} {P Q : PosT} (h : rn σ P Q) : pC Q = (pC P).map σ := by
  unfold pC pW
  rw [h.1]
  unfold ren
  rw [List.map_flatten, List.map_flatten]
theorem ren_cM {σ : Nat → Nat} {P Q : PosT} (h : rn σ P Q) {a b : Nat} (ha : a ∈ pC P) (hb : b ∈ pC P) : cM Q.1 (σ a) (σ b) = cM P.1 a b := by
  unfold cM
  rw [h.2.2 a ha, h.2.2 b hb]
  by_cases e : a = b
  · rw [e, if_pos rfl, if_pos rfl]
  · rw [if_neg e, if_neg fun q => e (h.2.1 a ha b hb q)]
theorem ren_legal {σ : Nat → Nat} {P Q : PosT} (h : rn σ P Q) {f u i v j s : Nat} : legal Q f u i v j s ↔ legal P f u i v j s := by
  have e1 : isTh Q (f, u, i, v, j) = isTh P (f, u, i, v, j) := by
    unfold isTh
    simp only
    have : Q.2.length = P.2.length := by rw [h.1]; exact List.length_map _
    rw [this, ren_fl h, ren_wl h, ren_wl h]
  have e2 : sidesP Q (f, u, i, v, j) = sidesP P (f, u, i, v, j) := by
    unfold sidesP
    simp only
    rw [ren_fl h]
  have e3 : isTh P (f, u, i, v, j) = true → canT Q (f, u, i, v, j) = canT P (f, u, i, v, j) := fun q => by
    obtain ⟨t1, t2, t3, t4, t5⟩ := of_decide_eq_true q
    simp only at t1 t2 t3 t4 t5
    unfold canT
    simp only
    rw [ren_w h, ren_w h]
    have ha := mem_pC (gD t1) (gD t2) (gD (d := 0) t3)
    have hb := mem_pC (gD t1) (gD t4) (gD (d := 0) t5)
    have k1 : (((P.2.getD f []).getD u []).map σ).getD i 0 = σ (((P.2.getD f []).getD u []).getD i 0) := getD_of (by rw [List.getElem?_map, gD (d := 0) t3]; rfl)
    have k2 : (((P.2.getD f []).getD v []).map σ).getD j 0 = σ (((P.2.getD f []).getD v []).getD j 0) := getD_of (by rw [List.getElem?_map, gD (d := 0) t5]; rfl)
    rw [k1, k2]
    exact ren_cM h ha hb
  unfold legal
  rw [e1, e2]
  constructor
  · rintro ⟨h1, h2, h3, h4, h5⟩
    exact ⟨h1, h2, h3, e3 h1 ▸ h4, h5⟩
  · rintro ⟨h1, h2, h3, h4, h5⟩
    exact ⟨h1, h2, h3, (e3 h1).symm ▸ h4, h5⟩
theorem mem_mv {P : PosT} {f u i v j s : Nat} (hL : legal P f u i v j s) (hlo : lone P) {q : Nat} (h : q ∈ pC (doMv P f u i v j s)) : q ∈ pC P ∨ q = P.1.length := by
  obtain ⟨a, b, E, h1, h2, h3, h4, h5, h6⟩ := mv_corners hL hlo
  have h := h5.subset h
  rw [List.mem_append, List.mem_append] at h
  rcases h with h | h | h
  · exact Or.inl h
  · left
    have hx : ∀ a q, q ∈ exA P.1 a → q = a := fun a q hq => by
      unfold exA at hq
      split at hq
      · cases hq
      · simpa using hq
    rcases h6 with ⟨-, rfl, -⟩ | ⟨-, -, rfl, -⟩ | ⟨-, -, rfl, rfl⟩
    · rcases List.mem_append.mp h with h | h
      · rw [hx _ _ h]; exact h2
      · rw [hx _ _ h]; exact h3
    · rcases List.mem_cons.mp h with rfl | h
      · exact h2
      · rw [List.mem_singleton.mp h]; exact h3
    · rcases List.mem_cons.mp h with rfl | h
      · exact h2
      · rw [hx _ _ h]; exact h2
  · right
    simpa using h
theorem ren_congr {σ τ : Nat → Nat} {F : List (List (List Nat))} (h : ∀ a ∈ F.flatten.flatten, σ a = τ a) : ren σ F = ren τ F := by
  unfold ren
  refine List.map_congr_left fun X hX => List.map_congr_left fun x hx => List.map_congr_left fun a ha => h a ?_
  exact List.mem_flatten.mpr ⟨x, List.mem_flatten.mpr ⟨X, hX, hx⟩, ha⟩
theorem rnd_ren {σ : Nat → Nat} {L L2 x : List Nat} {i a : Nat} (hi : x[i]? = some a) (h : L2.getD (σ a) 0 = L.getD a 0) : rnd L2 (x.map σ) i = (rnd L x i).map σ := by
  have hi2 : (x.map σ)[i]? = some (σ a) := by rw [List.getElem?_map, hi]; rfl
  unfold rnd
  rw [getD_of hi, getD_of hi2, h]
  split
  · simp [List.map_drop]
  · simp [List.map_drop, List.map_take]
theorem pk_map {g : List Nat → List Nat} {w : Nat} : ∀ {X : List (List Nat)} {s : Nat}, pk w s (X.map g) = (pk w s X).map g
  | [], s => rfl
  | x :: X, s => by
    rw [List.map_cons]
    unfold pk
    split
    · rw [List.map_cons, pk_map]
    · exact pk_map
theorem ren_mv {σ : Nat → Nat} {P Q : PosT} (h : rn σ P Q) (hP : vld P) (hQ : vld Q) {f u i v j s : Nat} (hL : legal P f u i v j s) : ∃ τ, rn τ (doMv P f u i v j s) (doMv Q f u i v j s) := by
  have hc : ∀ a ∈ pC P, a ≠ P.1.length := fun a ha q => by have := hP.1.1 a ha; omega
  have hs : ∀ a ∈ pC P, σ a < Q.1.length := fun a ha => hQ.1.1 _ (by rw [pC_ren h]; exact List.mem_map.mpr ⟨a, ha, rfl⟩)
  refine ⟨fun x => if x = P.1.length then Q.1.length else σ x, ?_⟩
  generalize hτ : (fun x => if x = P.1.length then Q.1.length else σ x) = τ
  have t1 : ∀ a ∈ pC P, τ a = σ a := fun a ha => by rw [← hτ]; exact if_neg (hc a ha)
  have t2 : τ P.1.length = Q.1.length := by rw [← hτ]; exact if_pos rfl
  have hQ2 : Q.2 = ren τ P.2 := by rw [h.1]; exact ren_congr fun a ha => (t1 a ha).symm
  have main : ∃ a b, a ∈ pC P ∧ b ∈ pC P ∧ (doMv P f u i v j s).1 = lvA P.1 a b ∧ (doMv Q f u i v j s).1 = lvA Q.1 (σ a) (σ b) ∧ (doMv Q f u i v j s).2 = ren τ (doMv P f u i v j s).2 := by
    obtain ⟨G1, G2, a, b, hf, hcm, ⟨X1, X2, X3, x, y, hP2, hu, hvv, hi, hj⟩ | ⟨X1, X2, x, hvv, hP2, hu, hi, hj, hij, hs⟩⟩ := legal_split hL
    · have hax : a ∈ x := List.mem_of_getElem? hi
      have hby : b ∈ y := List.mem_of_getElem? hj
      have ha : a ∈ pC P := by unfold pC pW; rw [hP2]; simp [hax]
      have hb : b ∈ pC P := by unfold pC pW; rw [hP2]; simp [hby]
      have hi2 : (x.map τ)[i]? = some (σ a) := by rw [List.getElem?_map, hi, ← t1 a ha]; rfl
      have hj2 : (y.map τ)[j]? = some (σ b) := by rw [List.getElem?_map, hj, ← t1 b hb]; rfl
      have e1 := doMv_m (s := s) hP2 hf hu hvv hi hj
      have e2 := doMv_m (s := s) (P := Q) (f := f) (u := u) (v := v) (G1 := ren τ G1) (G2 := ren τ G2) (X1 := X1.map (List.map τ)) (X2 := X2.map (List.map τ)) (X3 := X3.map (List.map τ)) (x := x.map τ) (y := y.map τ) (by rw [hQ2, hP2]; simp [ren]) (by simpa [ren] using hf) (by simpa using hu) (by simpa using hvv) hi2 hj2
      refine ⟨a, b, ha, hb, by rw [e1], by rw [e2], ?_⟩
      rw [e1, e2, rnd_ren hi (by rw [t1 a ha]; exact h.2.2 a ha), rnd_ren hj (by rw [t1 b hb]; exact h.2.2 b hb)]
      simp [ren, t2]
    · have hax : a ∈ x := List.mem_of_getElem? hi
      have hby : b ∈ x := List.mem_of_getElem? hj
      have ha : a ∈ pC P := by unfold pC pW; rw [hP2]; simp [hax]
      have hb : b ∈ pC P := by unfold pC pW; rw [hP2]; simp [hby]
      have hi2 : (x.map τ)[i]? = some (σ a) := by rw [List.getElem?_map, hi, ← t1 a ha]; rfl
      have hj2 : (x.map τ)[j]? = some (σ b) := by rw [List.getElem?_map, hj, ← t1 b hb]; rfl
      subst hvv
      have e1 := doMv_s (s := s) hP2 hf hu hi hj
      have e2 := doMv_s (s := s) (P := Q) (f := f) (G1 := ren τ G1) (G2 := ren τ G2) (X1 := X1.map (List.map τ)) (X2 := X2.map (List.map τ)) (x := x.map τ) (by rw [hQ2, hP2]; simp [ren]) (by simpa [ren] using hf) (by simpa using hu) hi2 hj2
      refine ⟨a, b, ha, hb, by rw [e1], by rw [e2], ?_⟩
      rw [e1, e2, rnd_ren hi (by rw [t1 a ha]; exact h.2.2 a ha), ← List.map_append, pk_map, pk_map]
      by_cases e : i = j
      · simp [ren, t2, e, List.map_drop, List.map_take]
      · simp [ren, t2, e, List.map_drop, List.map_take]
  obtain ⟨a, b, ha, hb, k1, k2, k3⟩ := main
  refine ⟨k3, fun x hx y hy q => ?_, fun x hx => ?_⟩
  · rcases mem_mv hL hP.2.1 hx with hx | rfl <;> rcases mem_mv hL hP.2.1 hy with hy | rfl
    · rw [t1 x hx, t1 y hy] at q
      exact h.2.1 x hx y hy q
    · rw [t1 x hx, t2] at q
      have := hs x hx
      omega
    · rw [t1 y hy, t2] at q
      have := hs y hy
      omega
    · rfl
  · rw [k1, k2]
    rcases mem_mv hL hP.2.1 hx with hx | rfl
    · rw [t1 x hx, lvA_get (hs x hx), lvA_get (hP.1.1 x hx), h.2.2 x hx]
      have q1 : (σ x = σ a) = (x = a) := propext ⟨h.2.1 x hx a ha, fun q => by rw [q]⟩
      have q2 : (σ x = σ b) = (x = b) := propext ⟨h.2.1 x hx b hb, fun q => by rw [q]⟩
      simp only [q1, q2]
    · rw [t2, lvA_new, lvA_new]
theorem nim_ren : ∀ n {σ : Nat → Nat} {P Q : PosT}, vld P → vld Q → rn σ P Q → nimF n P = nimF n Q
  | 0, _, _, _, _, _, _ => rfl
  | n + 1, σ, P, Q, hP, hQ, h => by
    unfold nimF
    refine mex_congr fun k => ?_
    rw [nim_opt, nim_opt]
    constructor
    · rintro ⟨f, u, i, v, j, s, h1, h2⟩
      obtain ⟨τ, h3⟩ := ren_mv h hP hQ h1
      refine ⟨f, u, i, v, j, s, (ren_legal h).mpr h1, ?_⟩
      rw [← h2]
      exact (nim_ren n (vld_mv hP h1) (vld_mv hQ ((ren_legal h).mpr h1)) h3).symm
    · rintro ⟨f, u, i, v, j, s, h1, h2⟩
      have h1 := (ren_legal h).mp h1
      obtain ⟨τ, h3⟩ := ren_mv h hP hQ h1
      refine ⟨f, u, i, v, j, s, h1, ?_⟩
      rw [← h2]
      exact nim_ren n (vld_mv hP h1) (vld_mv hQ ((ren_legal h).mpr h1)) h3
theorem val_ren {σ : Nat → Nat} {P Q : PosT} (hP : vld P) (hQ : vld Q) (h : rn σ P Q) : val P = val Q := by
  rw [← val_at (n := P.1.sum + Q.1.sum) (by omega), ← val_at (P := Q) (n := P.1.sum + Q.1.sum) (by omega)]
  exact nim_ren _ hP hQ h
/-- lives of spots that aren't there make no difference -/
theorem val_lives {P Q : PosT} (hP : vld P) (hQ : vld Q) (h1 : Q.2 = P.2) (h2 : ∀ a ∈ pC P, Q.1.getD a 0 = P.1.getD a 0) : val P = val Q := by
  refine val_ren (σ := fun a => a) hP hQ ⟨?_, fun a _ b _ q => q, h2⟩
  rw [h1]
  unfold ren
  simp
