section
variable {eN sN wN eL sL wL yx th sz wd yy : Nat → Int32}
/-- the sizes differ: the reference answers 1 at the end of its words, or before -/
theorem nu_y1 {f s : Nat} (hf : f < 6) (es : sz f = nI s) (hs : s ≤ 4) (hn : ¬ sz f = sz (6 + f)) {post : Int32 → Prop} (hp : post 1) : ∀ d i : Nat, i + d = s → wY_differs_33 post (nI f) th sz wd yy (d + 1) (nI i) := by
  intro d
  induction d with
  | zero =>
    intro i hi
    obtain rfl : i = s := by omega
    refine ⟨nf_v12 (by omega), ?_⟩
    rw [nf_y6, nf_c (f := f) (by omega), nf_c (f := 6 + f) (by omega)]
    refine br_t ?_ ⟨nf_v12 (by omega), nf_v12 (by omega), br_f hn hp⟩
    rw [es]
    exact nI_le (Nat.le_refl _) (by omega)
  | succ d ih =>
    intro i hi
    refine ⟨nf_v12 (by omega), ?_⟩
    rw [nf_ya, nf_yb, nf_c (f := 4 * f + i) (by omega), nf_c (f := 24 + (4 * f + i)) (by omega)]
    refine br_f ?_ ⟨nf_v48 (by omega), nf_v48 (by omega), ?_⟩
    · rw [nf_c (f := f) (by omega), es]
      exact nI_ge (by omega) (by omega)
    · by_cases e : wd (4 * f + i) = wd (24 + (4 * f + i))
      · exact br_t e (nm_r (nI_1 i) (ih (i + 1) (by omega)))
      · exact br_f e hp
/-- the sizes are the same: both look at the same words -/
theorem nu_xy {f s : Nat} (hf : f < 6) (ex : sN f = nI s) (es : sz f = nI s) (hs : s ≤ 4) (he : sz f = sz (6 + f)) (hN : ∀ j, j < 24 → wN j = wd j) (hL : ∀ j, j < 24 → wL j = wd (24 + j)) : ∀ d i : Nat, i + d = s → ∃ r : Int32, (∀ post : Int32 → Prop, post r → wX_wouldChange_47 post (nI f) eN sN wN eL sL wL yx (d + 1) (nI i)) ∧ (∀ post : Int32 → Prop, post r → wY_differs_33 post (nI f) th sz wd yy (d + 1) (nI i)) := by
  intro d
  induction d with
  | zero =>
    intro i hi
    obtain rfl : i = s := by omega
    refine ⟨0, fun post hp => ⟨nf_v6 hf, br_t ?_ hp⟩, fun post hp => ⟨nf_v12 (by omega), br_t ?_ ⟨nf_v12 (by omega), ?_⟩⟩⟩
    · rw [nf_c (f := f) (by omega), ex]
      exact nI_le (Nat.le_refl _) (by omega)
    · rw [nf_c (f := f) (by omega), es]
      exact nI_le (Nat.le_refl _) (by omega)
    · rw [nf_y6, nf_c (f := f) (by omega), nf_c (f := 6 + f) (by omega)]
      exact ⟨nf_v12 (by omega), br_t he hp⟩
  | succ d ih =>
    intro i hi
    have gx : ¬ sN (nI f).toNatClampNeg ≤ nI i := by
      rw [nf_c (f := f) (by omega), ex]
      exact nI_ge (by omega) (by omega)
    have gy : ¬ sz (nI f).toNatClampNeg ≤ nI i := by
      rw [nf_c (f := f) (by omega), es]
      exact nI_ge (by omega) (by omega)
    have aN := hN (4 * f + i) (by omega)
    have aL := hL (4 * f + i) (by omega)
    by_cases e : wd (4 * f + i) = wd (24 + (4 * f + i))
    · obtain ⟨r, hX, hY⟩ := ih (i + 1) (by omega)
      refine ⟨r, fun post hp => ⟨nf_v6 hf, br_f gx ?_⟩, fun post hp => ⟨nf_v12 (by omega), br_f gy ?_⟩⟩
      · rw [nf_xa, nf_c (f := 4 * f + i) (by omega)]
        exact ⟨nf_v24 (by omega), nf_v24 (by omega), br_t (aN.trans (e.trans aL.symm)) (nm_r (nI_1 i) (hX post hp))⟩
      · rw [nf_ya, nf_yb, nf_c (f := 4 * f + i) (by omega), nf_c (f := 24 + (4 * f + i)) (by omega)]
        exact ⟨nf_v48 (by omega), nf_v48 (by omega), br_t e (nm_r (nI_1 i) (hY post hp))⟩
    · refine ⟨1, fun post hp => ⟨nf_v6 hf, br_f gx ?_⟩, fun post hp => ⟨nf_v12 (by omega), br_f gy ?_⟩⟩
      · rw [nf_xa, nf_c (f := 4 * f + i) (by omega)]
        exact ⟨nf_v24 (by omega), nf_v24 (by omega), br_f (fun q => e (aN.symm.trans (q.trans aL))) hp⟩
      · rw [nf_ya, nf_yb, nf_c (f := 4 * f + i) (by omega), nf_c (f := 24 + (4 * f + i)) (by omega)]
        exact ⟨nf_v48 (by omega), nf_v48 (by omega), br_f e hp⟩
theorem nu_file (h : nf_R eN sN wN eL sL wL yx th sz wd yy) {f : Nat} (hf : f < 6) : ∃ r : Int32, (∀ post : Int32 → Prop, post r → wpX_wouldChange post (eN, sN, wN, eL, sL, wL, yx) (nI f)) ∧ (∀ post : Int32 → Prop, post r → wpY_differs post (th, sz, wd, yy) (nI f)) := by
  obtain ⟨h1, h2, h3, h4, h5, h6, h7, h8, h9⟩ := h
  have e1 := h1 f hf
  have e2 := h2 f hf
  have e3 := h3 f hf
  have e4 := h4 f hf
  obtain ⟨s, hs, es⟩ := h8 f (by omega)
  have cf : (nI f).toNatClampNeg = f := nf_c (by omega)
  have c6 : (nI (6 + f)).toNatClampNeg = 6 + f := nf_c (by omega)
  have v6 : vp_in (nI f) 6 := nf_v6 hf
  have va : vp_in (nI f) 12 := nf_v12 (by omega)
  have vb : vp_in (nI (6 + f)) 12 := nf_v12 (by omega)
  unfold wpX_wouldChange wpY_differs
  dsimp only
  rw [nf_y6, cf, c6, e1, e2, e3, e4]
  by_cases a : th f = th (6 + f)
  · by_cases z : th f = 0
    · exact ⟨0, fun post hp => ⟨v6, v6, br_t a ⟨v6, br_t z hp⟩⟩, fun post hp => ⟨va, vb, br_t a ⟨va, br_t z hp⟩⟩⟩
    · by_cases q : sz f = sz (6 + f)
      · obtain ⟨r, hX, hY⟩ := nu_xy (eN := eN) (eL := eL) (sL := sL) (yx := yx) (th := th) (yy := yy) hf (e3.trans es) es hs q h5 h6 s 0 (by omega)
        rw [nI_0] at hX hY
        exact ⟨r, fun post hp => ⟨v6, v6, br_t a ⟨v6, br_f z ⟨v6, v6, br_t q ⟨_, hX post hp⟩⟩⟩⟩, fun post hp => ⟨va, vb, br_t a ⟨va, br_f z ⟨_, hY post hp⟩⟩⟩⟩
      · refine ⟨1, fun post hp => ⟨v6, v6, br_t a ⟨v6, br_f z ⟨v6, v6, br_f q hp⟩⟩⟩, fun post hp => ⟨va, vb, br_t a ⟨va, br_f z ?_⟩⟩⟩
        have h := nu_y1 (th := th) (wd := wd) (yy := yy) hf es hs q hp s 0 (by omega)
        rw [nI_0] at h
        exact ⟨_, h⟩
  · exact ⟨1, fun post hp => ⟨v6, v6, br_f a hp⟩, fun post hp => ⟨va, vb, br_f a hp⟩⟩
theorem nu_loop (h : nf_R eN sN wN eL sL wL yx th sz wd yy) : ∀ (d i : Nat) (c : Int32), i + d = 6 → ∃ r : Int32, (∀ post : Int32 → Prop, post r → wX_unsafe_4 post eN sN wN eL sL wL yx (d + 1) c (nI i)) ∧ (∀ post : Int32 → Prop, post r → wY_unsafe_4 post th sz wd yy (d + 1) c (nI i)) := by
  intro d
  induction d with
  | zero =>
    intro i c hi
    obtain rfl : i = 6 := by omega
    exact ⟨c, fun post hp => br_t nf_g6 hp, fun post hp => br_t nf_g6 hp⟩
  | succ d ih =>
    intro i c hi
    have g := nf_l6 (i := i) (by omega)
    obtain ⟨r, hX, hY⟩ := nu_file h (f := i) (by omega)
    by_cases z : r = 0
    · obtain ⟨q, qX, qY⟩ := ih (i + 1) c (by omega)
      exact ⟨q, fun post hp => br_f g (hX _ (br_t z (nm_r (nI_1 i) (qX post hp)))), fun post hp => br_f g (hY _ (br_t z (nm_r (nI_1 i) (qY post hp))))⟩
    · obtain ⟨q, qX, qY⟩ := ih (i + 1) (c + 1) (by omega)
      exact ⟨q, fun post hp => br_f g (hX _ (br_f z (nm_e (nm_r (nI_1 i) (qX post hp))))), fun post hp => br_f g (hY _ (br_f z (nm_e (nm_r (nI_1 i) (qY post hp)))))⟩
end
