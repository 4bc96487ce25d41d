/-! the reference's reduces -/
theorem hup_comm {h : HP} {r s : Nat} {e e2 : hE} (hn : r ≠ s) : hup (hup h r e) s e2 = hup (hup h s e2) r e := by
  funext x
  unfold hup
  by_cases h1 : x = r
  · by_cases h2 : x = s
    · omega
    · rw [if_neg h2, if_pos h1, if_pos h1]
  · by_cases h2 : x = s
    · rw [if_pos h2, if_neg h1, if_pos h2]
    · rw [if_neg h2, if_neg h1, if_neg h1, if_neg h2]
def mP (h : HP) (M : Nat) (pf : Nat → Int32) : HP := hup h (M + 6) (.inl (0, 32, .inl pf))
theorem mP_put {h : HP} {M : Nat} {pf pf2 al : Nat → Int32} : hup (mA (mP h M pf) M al) (M + 6) (.inl (0, 32, .inl pf2)) = mA (mP h M pf2) M al := by
  unfold mA mP
  rw [hup_comm (by omega), hup_hup]
theorem mdA.pp {h : HP} {M : Nat} {fs : List Value} {al pf : Nat → Int32} (H : mdA h M fs al) : mdA (mP h M pf) M fs al := ⟨hup_ne (by omega) H.1, H.2.1, hup_ne (by omega) H.2.2⟩
theorem mP_at {h : HP} {M : Nat} {pf al : Nat → Int32} : mA (mP h M pf) M al (M + 6) = some (.inl (0, 32, .inl pf)) := hup_ne (by omega) hup_eq
theorem mP_self {h : HP} {M : Nat} {pf : Nat → Int32} (e : h (M + 6) = some (.inl (0, 32, .inl pf))) : mP h M pf = h := by
  funext x
  unfold mP hup
  split
  · rename_i q
    rw [q, e]
  · rfl
theorem row_spot {a : Nat → Int32} {q l : Nat} {lv : List Nat} {F : List (List (List Nat))} (HR : rowIs a q (lv, F)) (hl : lv.length + 1 ≤ 32) : rowIs (upd (upd a (q + 4 + lv.length) (nI l)) (q + 0) (nI (lv.length + 1))) q (lv ++ [l], F) := by
  obtain ⟨⟨h1, h2, h3, h4⟩, h5, h6, h7, h8, b1, b2, b3, b4⟩ := HR
  have e1 : pW (lv ++ [l], F) = pW (lv, F) := rfl
  have e2 : pC (lv ++ [l], F) = pC (lv, F) := rfl
  refine ⟨⟨?_, ?_, ?_, ?_⟩, ?_, ?_, ?_, ?_, by simpa using hl, b2, b3, b4⟩
  · show upd (upd a (q + 4 + lv.length) (nI l)) q (nI (lv.length + 1)) q = _
    rw [pk_us]; simp
  · rw [pk_un (by omega), pk_un (by omega)]; exact h2
  · rw [pk_un (by omega), pk_un (by omega)]; exact h3
  · rw [pk_un (by omega), pk_un (by omega)]; exact h4
  · exact rowL_out (rowL_app h5 rfl) (by omega)
  · exact rowL_out (rowL_out h6 (by omega)) (by omega)
  · exact rowL_out (rowL_out h7 (by omega)) (by omega)
  · exact rowL_out (rowL_out h8 (by omega)) (by omega)
/-- the row that is being written, by the numbers of first sight -/
def rdS (al : Nat → Int32) (p q : Nat) (P : PosT) (a pf : Nat → Int32) (D : List Nat) (G : List (List (List Nat))) : Prop := bst al a p q P (cnP P.1 D G) ∧ (∀ s, s < P.1.length → pf s = if s ∈ D then nI (D.idxOf s) else -1) ∧ D.Nodup ∧ (∀ s ∈ D, s < P.1.length) ∧ ∀ s, s ∈ G.flatten.flatten ↔ s ∈ D
theorem cn_F {L D : List Nat} {F : List (List (List Nat))} {X : List (List Nat)} : cnP L D (F ++ [X]) = (D.map (fun s => L.getD s 0), ren (fun s => D.idxOf s) F ++ [X.map (List.map (fun s => D.idxOf s))]) := by
  unfold cnP ren
  simp
theorem cn_X {L D : List Nat} {F : List (List (List Nat))} {X : List (List Nat)} {C : List Nat} : cnP L D (F ++ [X ++ [C]]) = (D.map (fun s => L.getD s 0), ren (fun s => D.idxOf s) F ++ [X.map (List.map (fun s => D.idxOf s)) ++ [C.map (fun s => D.idxOf s)]]) := by
  rw [cn_F]
  simp
theorem ren_l1 {σ : Nat → Nat} {F : List (List (List Nat))} : (ren σ F).length = F.length := List.length_map _
theorem ren_l2 {σ : Nat → Nat} {F : List (List (List Nat))} : (ren σ F).flatten.length = F.flatten.length := by
  unfold ren
  rw [← List.map_flatten, List.length_map]
theorem ren_l3 {σ : Nat → Nat} {F : List (List (List Nat))} : (ren σ F).flatten.flatten.length = F.flatten.flatten.length := by
  unfold ren
  rw [← List.map_flatten, ← List.map_flatten, List.length_map]
theorem map_l {σ : Nat → Nat} {X : List (List Nat)} : (X.map (List.map σ)).flatten.length = X.flatten.length := by
  rw [← List.map_flatten, List.length_map]
/-- what stands written inside a field -/
def fin (F : List (List (List Nat))) (X : List (List Nat)) (C : List Nat) : List (List (List Nat)) := if C = [] then (if X = [] then F else F ++ [X]) else F ++ [X ++ [C]]
def flX (X : List (List Nat)) (C : List Nat) : Nat := if X = [] ∧ C = [] then 0 else 1
def flC (C : List Nat) : Nat := if C = [] then 0 else 1
theorem fin_n {F : List (List (List Nat))} {X : List (List Nat)} {C : List Nat} : fin F (if C = [] then X else X ++ [C]) [] = fin F X C := by
  unfold fin
  by_cases e : C = []
  · rw [if_pos e, if_pos rfl, if_pos e]
  · rw [if_neg e, if_pos rfl, if_neg e, if_neg (by simp)]
theorem flX_n {X : List (List Nat)} {C : List Nat} : flX (if C = [] then X else X ++ [C]) [] = flX X C := by
  unfold flX
  by_cases e : C = []
  · simp [e]
  · simp [e]
section REF
variable {sc : ipSc} {d z M p q : Nat} {h : HP} {fs : List Value} {al : Nat → Int32} {P : PosT} {F : List (List (List Nat))} {X : List (List Nat)} {C D : List Nat} {a pf : Nat → Int32}
theorem rdS.old {s : Nat} {a2 : Nat → Int32} (hd : far p q) (S : rdS al p q P a pf D (F ++ [X ++ [C]])) (hs : s ∈ D) (h2 : rowIs a2 q (D.map (fun s => P.1.getD s 0), ren (fun s => D.idxOf s) F ++ [X.map (List.map (fun s => D.idxOf s)) ++ [C.map (fun s => D.idxOf s) ++ [D.idxOf s]]]) ∧ eqOff q a a2) : rdS al p q P a2 pf D (F ++ [X ++ [C ++ [s]]]) := by
  obtain ⟨B, k1, k2, k3, k4⟩ := S
  refine ⟨B.nx hd ⟨?_, h2.2⟩, k1, k2, k3, fun x => ?_⟩
  · rw [cn_X, List.map_append]
    exact h2.1
  · rw [← k4 x]
    simp only [List.flatten_append, List.flatten_cons, List.flatten_nil, List.append_nil, List.mem_append, List.mem_cons, List.not_mem_nil, or_false]
    constructor
    · rintro (r | r | r | r)
      · exact Or.inl r
      · exact Or.inr (Or.inl r)
      · exact Or.inr (Or.inr r)
      · rw [r]
        have := (k4 s).mpr hs
        simpa using this
    · rintro (r | r | r)
      · exact Or.inl r
      · exact Or.inr (Or.inl r)
      · exact Or.inr (Or.inr (Or.inl r))
/-- a spot gets its number -/
theorem rdS.new {s : Nat} {a2 : Nat → Int32} (hd : far p q) (S : rdS al p q P a pf D (F ++ [X ++ [C]])) (hs : s ∉ D) (hsl : s < P.1.length) (h2 : rowIs a2 q ((D ++ [s]).map (fun s => P.1.getD s 0), ren (fun s => D.idxOf s) F ++ [X.map (List.map (fun s => D.idxOf s)) ++ [C.map (fun s => D.idxOf s) ++ [D.length]]]) ∧ eqOff q a a2) : rdS al p q P a2 (upd pf s (nI D.length)) (D ++ [s]) (F ++ [X ++ [C ++ [s]]]) := by
  obtain ⟨B, k1, k2, k3, k4⟩ := S
  have hi : (D ++ [s]).idxOf s = D.length := by
    rw [List.idxOf_append, if_neg hs]
    simp
  refine ⟨B.nx hd ⟨?_, h2.2⟩, fun x hx => ?_, ?_, ?_, fun x => ?_⟩
  · rw [cn_X]
    have hF : ∀ a ∈ F.flatten.flatten, a ∈ D := fun a ha => (k4 a).mp (by simp [List.flatten_append]; simp at ha; exact Or.inl ha)
    have hX : ∀ a ∈ X.flatten, a ∈ D := fun a ha => (k4 a).mp (by simp [List.flatten_append]; simp at ha; exact Or.inr (Or.inl ha))
    have hC : ∀ a ∈ C, a ∈ D := fun a ha => (k4 a).mp (by simp [List.flatten_append, ha])
    have e1 : X.map (List.map (fun a => (D ++ [s]).idxOf a)) = X.map (List.map (fun a => D.idxOf a)) := List.map_congr_left fun x hx => List.map_congr_left fun a ha => by
      rw [List.idxOf_append, if_pos (hX a (List.mem_flatten.mpr ⟨x, hx, ha⟩))]
    have e2 : C.map (fun a => (D ++ [s]).idxOf a) = C.map (fun a => D.idxOf a) := List.map_congr_left fun a ha => by
      rw [List.idxOf_append, if_pos (hC a ha)]
    have e3 : (C ++ [s]).map (fun a => (D ++ [s]).idxOf a) = C.map (fun a => D.idxOf a) ++ [D.length] := by
      rw [List.map_append, e2]
      simp only [List.map_cons, List.map_nil, hi]
    rw [ren_more hF, e1, e3]
    exact h2.1
  · by_cases e : x = s
    · subst e
      rw [pk_us, if_pos (by simp), hi]
    · rw [pk_un e, k1 x hx]
      by_cases m : x ∈ D
      · rw [if_pos m, if_pos (List.mem_append_left _ m), List.idxOf_append, if_pos m]
      · rw [if_neg m, if_neg (by simp [m, e])]
  · rw [List.nodup_append]
    exact ⟨k2, by simp, fun x hx y hy q => hs (by rw [List.mem_singleton.mp hy] at q; exact q ▸ hx)⟩
  · intro x hx
    rcases List.mem_append.mp hx with r | r
    · exact k3 x r
    · rw [List.mem_singleton.mp r]
      exact hsl
  · rw [List.mem_append, ← k4 x]
    simp only [List.flatten_append, List.flatten_cons, List.flatten_nil, List.append_nil, List.mem_append, List.mem_cons, List.not_mem_nil, or_false]
    constructor
    · rintro (r | r | r | r)
      · exact Or.inl (Or.inl r)
      · exact Or.inl (Or.inr (Or.inl r))
      · exact Or.inl (Or.inr (Or.inr r))
      · exact Or.inr r
    · rintro ((r | r | r) | r)
      · exact Or.inl r
      · exact Or.inr (Or.inl r)
      · exact Or.inr (Or.inr (Or.inl r))
      · exact Or.inr (Or.inr (Or.inr r))
end REF
