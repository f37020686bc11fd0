/-- X's seven arrays and the reference's four: the same, place by place; young only where the file exists now -/
def nf_R (eN sN wN eL sL wL yx th sz wd yy : Nat → Int32) : Prop :=
  (∀ i, i < 6 → eN i = th i) ∧ (∀ i, i < 6 → eL i = th (6 + i)) ∧ (∀ i, i < 6 → sN i = sz i) ∧ (∀ i, i < 6 → sL i = sz (6 + i)) ∧
  (∀ j, j < 24 → wN j = wd j) ∧ (∀ j, j < 24 → wL j = wd (24 + j)) ∧ (∀ i, i < 12 → nf_B (th i)) ∧ (∀ i, i < 12 → nf_S (sz i)) ∧
  (∀ i, i < 6 → ¬ th i = 0 → yx i = yy i)
section
variable {eN sN wN eL sL wL yx th sz wd yy : Nat → Int32}
theorem nf_S0 : nf_S 0 := ⟨0, by omega, rfl⟩
theorem nf_Rinit : nf_R (fun _ => 0) (fun _ => 0) (fun _ => 0) (fun _ => 0) (fun _ => 0) (fun _ => 0) (fun _ => 0) (fun _ => 0) (fun _ => 0) (fun _ => 0) (fun _ => 0) :=
  ⟨fun _ _ => rfl, fun _ _ => rfl, fun _ _ => rfl, fun _ _ => rfl, fun _ _ => rfl, fun _ _ => rfl, fun _ _ => nf_B0, fun _ _ => nf_S0, fun _ _ _ => rfl⟩
theorem nf_Rcreate (h : nf_R eN sN wN eL sL wL yx th sz wd yy) {f : Nat} (hf : f < 6) : nf_R (upd eN f 1) (upd sN f 0) wN eL sL wL (upd yx f 1) (upd th f 1) (upd sz f 0) wd (upd yy f 1) := by
  obtain ⟨h1, h2, h3, h4, h5, h6, h7, h8, h9⟩ := h
  refine ⟨fun i hi => nf_uc (h1 i hi) rfl, fun i hi => (h2 i hi).trans (pk_un (by omega)).symm, fun i hi => nf_uc (h3 i hi) rfl, fun i hi => (h4 i hi).trans (pk_un (by omega)).symm, h5, h6, nf_uP h7 nf_B1, nf_uP h8 nf_S0, fun i hi hn => ?_⟩
  by_cases e : i = f
  · subst e
    rw [pk_us, pk_us]
  · rw [pk_un e] at hn
    rw [pk_un e, pk_un e]
    exact h9 i hi hn
theorem nf_Rremove (h : nf_R eN sN wN eL sL wL yx th sz wd yy) {f : Nat} (hf : f < 6) : nf_R (upd eN f 0) sN wN eL sL wL yx (upd th f 0) sz wd (upd yy f 0) := by
  obtain ⟨h1, h2, h3, h4, h5, h6, h7, h8, h9⟩ := h
  refine ⟨fun i hi => nf_uc (h1 i hi) rfl, fun i hi => (h2 i hi).trans (pk_un (by omega)).symm, h3, h4, h5, h6, nf_uP h7 nf_B0, h8, fun i hi hn => ?_⟩
  by_cases e : i = f
  · subst e
    rw [pk_us] at hn
    exact absurd rfl hn
  · rw [pk_un e] at hn
    rw [pk_un e]
    exact h9 i hi hn
/-- a new size of a file that is there now -/
theorem nf_Rsize (h : nf_R eN sN wN eL sL wL yx th sz wd yy) {f n : Nat} (hf : f < 6) (hn : n ≤ 4) : nf_R eN (upd sN f (nI n)) wN eL sL wL yx th (upd sz f (nI n)) wd yy := by
  obtain ⟨h1, h2, h3, h4, h5, h6, h7, h8, h9⟩ := h
  exact ⟨h1, h2, fun i hi => nf_uc (h3 i hi) rfl, fun i hi => (h4 i hi).trans (pk_un (by omega)).symm, h5, h6, h7, nf_uP h8 ⟨n, hn, rfl⟩, h9⟩
/-- a word -/
theorem nf_Rword (h : nf_R eN sN wN eL sL wL yx th sz wd yy) {j : Nat} (hj : j < 24) (x : Int32) : nf_R eN sN (upd wN j x) eL sL wL yx th sz (upd wd j x) yy := by
  obtain ⟨h1, h2, h3, h4, h5, h6, h7, h8, h9⟩ := h
  exact ⟨h1, h2, h3, h4, fun i hi => nf_uc (h5 i hi) rfl, fun i hi => (h6 i hi).trans (pk_un (by omega)).symm, h7, h8, h9⟩
theorem nf_Rcopy (h : nf_R eN sN wN eL sL wL yx th sz wd yy) {f g : Nat} (hf : f < 6) (hg : g < 6) : nf_R eN (upd sN f (sN g)) (nf_cp wN wN (4 * g) (4 * f) 4) eL sL wL yx th (upd sz f (sz g)) (nf_cp wd wd (4 * g) (4 * f) 4) yy := by
  obtain ⟨h1, h2, h3, h4, h5, h6, h7, h8, h9⟩ := h
  refine ⟨h1, h2, fun i hi => nf_uc (h3 i hi) (h3 g hg), fun i hi => (h4 i hi).trans (pk_un (by omega)).symm, fun j hj => ?_, fun j hj => (h6 j hj).trans (nf_co (by omega)).symm, h7, nf_uP h8 (h8 g (by omega)), h9⟩
  by_cases e : 4 * f ≤ j ∧ j < 4 * f + 4
  · rw [nf_ci e.1 e.2, nf_ci e.1 e.2]
    exact h5 _ (by omega)
  · rw [nf_co (by omega), nf_co (by omega)]
    exact h5 j hj
theorem nf_Rlast (h : nf_R eN sN wN eL sL wL yx th sz wd yy) {f : Nat} (hf : f < 6) {x : Int32} (hx : x = eN f) : nf_R eN sN wN (upd eL f x) (upd sL f (sN f)) (nf_cp wN wL (4 * f) (4 * f) 4) yx (upd th (6 + f) x) (upd sz (6 + f) (sz f)) (nf_cp wd wd (4 * f) (4 * (6 + f)) 4) yy := by
  obtain ⟨h1, h2, h3, h4, h5, h6, h7, h8, h9⟩ := h
  refine ⟨fun i hi => (h1 i hi).trans (pk_un (by omega)).symm, fun i hi => ?_, fun i hi => (h3 i hi).trans (pk_un (by omega)).symm, fun i hi => ?_, fun j hj => (h5 j hj).trans (nf_co (by omega)).symm, fun j hj => ?_, nf_uP h7 ?_, nf_uP h8 (h8 f (by omega)), fun i hi hn => ?_⟩
  · by_cases e : i = f
    · subst e
      rw [pk_us, pk_us]
    · rw [pk_un e, pk_un (by omega)]
      exact h2 i hi
  · by_cases e : i = f
    · subst e
      rw [pk_us, pk_us]
      exact h3 i hi
    · rw [pk_un e, pk_un (by omega)]
      exact h4 i hi
  · by_cases e : 4 * f ≤ j ∧ j < 4 * f + 4
    · rw [nf_ci e.1 e.2, nf_ci (by omega) (by omega), show 4 * f + (24 + j - 4 * (6 + f)) = 4 * f + (j - 4 * f) by omega]
      exact h5 _ (by omega)
    · rw [nf_co (by omega), nf_co (by omega)]
      exact h6 j hj
  · rw [hx, h1 f hf]
    exact h7 f (by omega)
  · rw [pk_un (by omega)] at hn
    exact h9 i hi hn
/-- a checkpoint -/
theorem nf_Rsync (h : nf_R eN sN wN eL sL wL yx th sz wd yy) : nf_R eN sN wN (nf_cp eN eL 0 0 6) (nf_cp sN sL 0 0 6) (nf_cp wN wL 0 0 24) (nf_cp (fun _ => 0) yx 0 0 6) (nf_cp th th 0 6 6) (nf_cp sz sz 0 6 6) (nf_cp wd wd 0 24 24) (nf_cp (fun _ => 0) yy 0 0 6) := by
  obtain ⟨h1, h2, h3, h4, h5, h6, h7, h8, h9⟩ := h
  refine ⟨fun i hi => (h1 i hi).trans (nf_co (by omega)).symm, fun i hi => ?_, fun i hi => (h3 i hi).trans (nf_co (by omega)).symm, fun i hi => ?_, fun j hj => (h5 j hj).trans (nf_co (by omega)).symm, fun j hj => ?_, nf_cP h7 (fun i hi => h7 _ (by omega)), nf_cP h8 (fun i hi => h8 _ (by omega)), fun i hi _ => ?_⟩
  · rw [nf_ci (by omega) (by omega), nf_ci (by omega) (by omega), show 0 + (6 + i - 6) = 0 + (i - 0) by omega]
    exact h1 _ (by omega)
  · rw [nf_ci (by omega) (by omega), nf_ci (by omega) (by omega), show 0 + (6 + i - 6) = 0 + (i - 0) by omega]
    exact h3 _ (by omega)
  · rw [nf_ci (by omega) (by omega), nf_ci (by omega) (by omega), show 0 + (24 + j - 24) = 0 + (j - 0) by omega]
    exact h5 _ (by omega)
  · rw [nf_ci (by omega) (by omega), nf_ci (by omega) (by omega)]
/-- the power fails -/
theorem nf_Rcrash (h : nf_R eN sN wN eL sL wL yx th sz wd yy) : nf_R (nf_cp eL eN 0 0 6) (nf_cp sL sN 0 0 6) (nf_cp wL wN 0 0 24) eL sL wL (nf_cp (fun _ => 0) yx 0 0 6) (nf_cp th th 6 0 6) (nf_cp sz sz 6 0 6) (nf_cp wd wd 24 0 24) (nf_cp (fun _ => 0) yy 0 0 6) := by
  obtain ⟨h1, h2, h3, h4, h5, h6, h7, h8, h9⟩ := h
  refine ⟨fun i hi => ?_, fun i hi => (h2 i hi).trans (nf_co (by omega)).symm, fun i hi => ?_, fun i hi => (h4 i hi).trans (nf_co (by omega)).symm, fun j hj => ?_, fun j hj => (h6 j hj).trans (nf_co (by omega)).symm, nf_cP h7 (fun i hi => h7 _ (by omega)), nf_cP h8 (fun i hi => h8 _ (by omega)), fun i hi _ => ?_⟩
  · rw [nf_ci (by omega) (by omega), nf_ci (by omega) (by omega), show 0 + (i - 0) = i by omega]
    exact h2 _ (by omega)
  · rw [nf_ci (by omega) (by omega), nf_ci (by omega) (by omega), show 0 + (i - 0) = i by omega]
    exact h4 _ (by omega)
  · rw [nf_ci (by omega) (by omega), nf_ci (by omega) (by omega), show 0 + (j - 0) = j by omega]
    exact h6 _ (by omega)
  · rw [nf_ci (by omega) (by omega), nf_ci (by omega) (by omega)]
end
