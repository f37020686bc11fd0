/-- X's state and the reference's hold the same files, now and lasting -/
def i_Rel (_ : Nat) (u : SX) (v : SY) : Prop := nf_R u.1 u.2.1 u.2.2.1 u.2.2.2.1 u.2.2.2.2.1 u.2.2.2.2.2.1 u.2.2.2.2.2.2 v.1 v.2.1 v.2.2.1 v.2.2.2
theorem i_up {k : Nat} {u : SX} {v : SY} (h : i_Rel k u v) : i_Rel (k + 4) u v := h
theorem i_vc0 : wpX_init (fun u => wpY_init (fun v => i_Rel 0 u v)) := nf_Rinit
theorem i_vc_create {k : Nat} {u : SX} {v : SY} (I : i_Rel k u v) (hk : k + 4 ≤ 2048) (v1 : Int32) : wpX_create (fun r u' => wpY_create (fun r' v' => r' = r ∧ i_Rel (k + 4) u' v') v v1) u v1 := by
  obtain ⟨eN, sN, wN, eL, sL, wL, yx⟩ := u
  obtain ⟨th, sz, wd, yy⟩ := v
  have R : nf_R eN sN wN eL sL wL yx th sz wd yy := I
  rcases pk_ix v1 (n := 6) (by decide) with h | h | ⟨f, hf, rfl⟩
  · exact nx_create0 (Or.inl h) (ny_create0 (Or.inl h) ⟨rfl, R⟩)
  · exact nx_create0 (Or.inr h) (ny_create0 (Or.inr h) ⟨rfl, R⟩)
  · by_cases z : th f = 0
    · exact nx_create1 hf ((R.1 f hf).trans z) (ny_create1 hf z ⟨rfl, nf_Rcreate R hf⟩)
    · exact nx_create3 hf (fun q => z ((R.1 f hf).symm.trans q)) (ny_create3 hf z ⟨rfl, R⟩)
theorem i_vc_remove {k : Nat} {u : SX} {v : SY} (I : i_Rel k u v) (hk : k + 4 ≤ 2048) (v1 : Int32) : wpX_remove (fun r u' => wpY_remove (fun r' v' => r' = r ∧ i_Rel (k + 4) u' v') v v1) u v1 := by
  obtain ⟨eN, sN, wN, eL, sL, wL, yx⟩ := u
  obtain ⟨th, sz, wd, yy⟩ := v
  have R : nf_R eN sN wN eL sL wL yx th sz wd yy := I
  rcases nf_rfD eN v1 with ⟨r, h⟩ | ⟨f, hf, rfl, z⟩
  · exact nx_removeR h (ny_removeR (nf_rfC h R.1) ⟨rfl, R⟩)
  · exact nx_remove1 hf z (ny_remove1 hf (fun q => z ((R.1 f hf).trans q)) ⟨(R.2.2.1 f hf).symm, nf_Rremove R hf⟩)
theorem i_vc_write {k : Nat} {u : SX} {v : SY} (I : i_Rel k u v) (hk : k + 4 ≤ 2048) (v1 : Int32) (v2 : Int32) (v3 : Int32) : wpX_write (fun r u' => wpY_write (fun r' v' => r' = r ∧ i_Rel (k + 4) u' v') v v1 v2 v3) u v1 v2 v3 := by
  obtain ⟨eN, sN, wN, eL, sL, wL, yx⟩ := u
  obtain ⟨th, sz, wd, yy⟩ := v
  have R : nf_R eN sN wN eL sL wL yx th sz wd yy := I
  rcases nf_rfD eN v1 with ⟨r, h⟩ | ⟨f, hf, rfl, z⟩
  · exact nx_writeR h (ny_writeR (nf_rfC h R.1) ⟨rfl, R⟩)
  · have zy : ¬ th f = 0 := fun q => z ((R.1 f hf).trans q)
    obtain ⟨s, hs, es⟩ := R.2.2.2.2.2.2.2.1 f (by omega)
    have ex : sN f = nI s := (R.2.2.1 f hf).trans es
    by_cases n : v2 < 0
    · exact nx_writeN hf z n (ny_writeN hf zy n ⟨rfl, R⟩)
    · obtain ⟨i, hi, rfl⟩ := nI_of n
      by_cases b : s < i ∨ 4 ≤ i
      · exact nx_writeB hf z ex hs hi b (ny_writeB hf zy es hs hi b ⟨rfl, R⟩)
      · by_cases q : i < s
        · exact nx_writeA hf z ex hs q (ny_writeA hf zy es hs q ⟨rfl, nf_Rword R (by omega) v3⟩)
        · obtain rfl : i = s := by omega
          exact nx_writeE hf z ex (by omega) (ny_writeE hf zy es (by omega) ⟨rfl, nf_Rword (nf_Rsize R hf (by omega)) (by omega) v3⟩)
theorem i_vc_truncate {k : Nat} {u : SX} {v : SY} (I : i_Rel k u v) (hk : k + 4 ≤ 2048) (v1 : Int32) (v2 : Int32) : wpX_truncate (fun r u' => wpY_truncate (fun r' v' => r' = r ∧ i_Rel (k + 4) u' v') v v1 v2) u v1 v2 := by
  obtain ⟨eN, sN, wN, eL, sL, wL, yx⟩ := u
  obtain ⟨th, sz, wd, yy⟩ := v
  have R : nf_R eN sN wN eL sL wL yx th sz wd yy := I
  rcases nf_rfD eN v1 with ⟨r, h⟩ | ⟨f, hf, rfl, z⟩
  · exact nx_truncR h (ny_truncR (nf_rfC h R.1) ⟨rfl, R⟩)
  · have zy : ¬ th f = 0 := fun q => z ((R.1 f hf).trans q)
    obtain ⟨s, hs, es⟩ := R.2.2.2.2.2.2.2.1 f (by omega)
    have ex : sN f = nI s := (R.2.2.1 f hf).trans es
    by_cases n : v2 < 0
    · exact nx_truncN hf z n (ny_truncN hf zy n ⟨rfl, R⟩)
    · obtain ⟨i, hi, rfl⟩ := nI_of n
      by_cases b : s < i
      · exact nx_truncB hf z ex hi b (ny_truncB hf zy es hi b ⟨rfl, R⟩)
      · exact nx_trunc1 hf z ex hs (by omega) (ny_trunc1 hf zy es hs (by omega) ⟨rfl, nf_Rsize R hf (by omega)⟩)
theorem i_vc_copy {k : Nat} {u : SX} {v : SY} (I : i_Rel k u v) (hk : k + 4 ≤ 2048) (v1 : Int32) (v2 : Int32) : wpX_copy (fun r u' => wpY_copy (fun r' v' => r' = r ∧ i_Rel (k + 4) u' v') v v1 v2) u v1 v2 := by
  obtain ⟨eN, sN, wN, eL, sL, wL, yx⟩ := u
  obtain ⟨th, sz, wd, yy⟩ := v
  have R : nf_R eN sN wN eL sL wL yx th sz wd yy := I
  have bad : ∀ {x y : Int32}, ((x < 0 ∨ nI 6 ≤ x) ∨ ((∃ f, f < 6 ∧ x = nI f) ∧ (y < 0 ∨ nI 6 ≤ y))) → wpX_copy (fun r u' => wpY_copy (fun r' v' => r' = r ∧ i_Rel (k + 4) u' v') (th, sz, wd, yy) x y) (eN, sN, wN, eL, sL, wL, yx) x y := fun h => nx_copy0 h (ny_copy0 h ⟨rfl, R⟩)
  rcases pk_ix v1 (n := 6) (by decide) with h | h | ⟨f, hf, rfl⟩
  · exact bad (Or.inl (Or.inl h))
  · exact bad (Or.inl (Or.inr h))
  · rcases pk_ix v2 (n := 6) (by decide) with h | h | ⟨g, hg, rfl⟩
    · exact bad (Or.inr ⟨⟨f, hf, rfl⟩, Or.inl h⟩)
    · exact bad (Or.inr ⟨⟨f, hf, rfl⟩, Or.inr h⟩)
    · by_cases zf : th f = 0
      · exact nx_copy3 hf hg (Or.inl ((R.1 f hf).trans zf)) (ny_copy3 hf hg (Or.inl zf) ⟨rfl, R⟩)
      · by_cases zg : th g = 0
        · exact nx_copy3 hf hg (Or.inr ((R.1 g hg).trans zg)) (ny_copy3 hf hg (Or.inr zg) ⟨rfl, R⟩)
        · exact nx_copy1 hf hg (fun q => zf ((R.1 f hf).symm.trans q)) (fun q => zg ((R.1 g hg).symm.trans q)) (ny_copy1 hf hg zf zg ⟨(R.2.2.1 g hg).symm, nf_Rcopy R hf hg⟩)
theorem i_vc_fsync {k : Nat} {u : SX} {v : SY} (I : i_Rel k u v) (hk : k + 4 ≤ 2048) (v1 : Int32) : wpX_fsync (fun r u' => wpY_fsync (fun r' v' => r' = r ∧ i_Rel (k + 4) u' v') v v1) u v1 := by
  obtain ⟨eN, sN, wN, eL, sL, wL, yx⟩ := u
  obtain ⟨th, sz, wd, yy⟩ := v
  have R : nf_R eN sN wN eL sL wL yx th sz wd yy := I
  rcases nf_rfD eN v1 with ⟨r, h⟩ | ⟨f, hf, rfl, z⟩
  · exact nx_fsyncR h (ny_fsyncR (nf_rfC h R.1) ⟨rfl, R⟩)
  · have zy : ¬ th f = 0 := fun q => z ((R.1 f hf).trans q)
    have hB : ∀ i, i < 6 → nf_B (th i) := fun i hi => R.2.2.2.2.2.2.1 i (by omega)
    have hE : ∀ i, i < 6 → nf_B (eN i) := fun i hi => by
      rw [R.1 i hi]
      exact hB i hi
    have ey : yx f = yy f := R.2.2.2.2.2.2.2.2 f hf zy
    by_cases y : yy f = 0
    · have e1 : eN f = 1 := (hE f hf).resolve_left z
      refine nx_fsync0 hf z (hE f hf) (ey.trans y) (ny_fsync0 hf zy y ⟨rfl, ?_⟩)
      have q := nf_Rlast R hf e1.symm
      rw [e1]
      exact q
    · exact nx_fsync1 hf z hE (fun q => y (ey.symm.trans q)) (ny_fsync1 hf zy hB y ⟨rfl, nf_Rsync R⟩)
theorem i_vc_sync {k : Nat} {u : SX} {v : SY} (I : i_Rel k u v) (hk : k + 4 ≤ 2048) : wpX_sync (fun r u' => wpY_sync (fun r' v' => r' = r ∧ i_Rel (k + 4) u' v') v) u := by
  obtain ⟨eN, sN, wN, eL, sL, wL, yx⟩ := u
  obtain ⟨th, sz, wd, yy⟩ := v
  have R : nf_R eN sN wN eL sL wL yx th sz wd yy := I
  have hB : ∀ i, i < 6 → nf_B (th i) := fun i hi => R.2.2.2.2.2.2.1 i (by omega)
  have hE : ∀ i, i < 6 → nf_B (eN i) := fun i hi => by
    rw [R.1 i hi]
    exact hB i hi
  exact nx_sync hE (ny_sync hB ⟨(nf_cntC 6 (nf_Rsync R).1).symm, nf_Rsync R⟩)
theorem i_vc_crash {k : Nat} {u : SX} {v : SY} (I : i_Rel k u v) (hk : k + 4 ≤ 2048) : wpX_crash (fun r u' => wpY_crash (fun r' v' => r' = r ∧ i_Rel (k + 4) u' v') v) u := by
  obtain ⟨eN, sN, wN, eL, sL, wL, yx⟩ := u
  obtain ⟨th, sz, wd, yy⟩ := v
  have R : nf_R eN sN wN eL sL wL yx th sz wd yy := I
  have hE : ∀ i, i < 6 → nf_B (eL i) := fun i hi => by
    rw [R.2.1 i hi]
    exact R.2.2.2.2.2.2.1 (6 + i) (by omega)
  exact nx_crash hE (ny_crash R.2.2.2.2.2.2.1 ⟨(nf_cntC 6 (nf_Rcrash R).1).symm, nf_Rcrash R⟩)
theorem i_vc_exists {k : Nat} {u : SX} {v : SY} (I : i_Rel k u v) (hk : k + 4 ≤ 2048) (v1 : Int32) : wpX_exists (fun r => wpY_exists (fun r' => r' = r ∧ i_Rel (k + 4) u v) v v1) u v1 := by
  obtain ⟨eN, sN, wN, eL, sL, wL, yx⟩ := u
  obtain ⟨th, sz, wd, yy⟩ := v
  have R : nf_R eN sN wN eL sL wL yx th sz wd yy := I
  rcases nf_rfD eN v1 with ⟨r, h⟩ | ⟨f, hf, rfl, z⟩
  · exact nx_existsR h (ny_existsR (nf_rfC h R.1) ⟨rfl, R⟩)
  · exact nx_exists1 hf z (ny_exists1 hf (fun q => z ((R.1 f hf).trans q)) ⟨rfl, R⟩)
theorem i_vc_size {k : Nat} {u : SX} {v : SY} (I : i_Rel k u v) (hk : k + 4 ≤ 2048) (v1 : Int32) : wpX_size (fun r => wpY_size (fun r' => r' = r ∧ i_Rel (k + 4) u v) v v1) u v1 := by
  obtain ⟨eN, sN, wN, eL, sL, wL, yx⟩ := u
  obtain ⟨th, sz, wd, yy⟩ := v
  have R : nf_R eN sN wN eL sL wL yx th sz wd yy := I
  rcases nf_rfD eN v1 with ⟨r, h⟩ | ⟨f, hf, rfl, z⟩
  · exact nx_sizeR h (ny_sizeR (nf_rfC h R.1) ⟨rfl, R⟩)
  · exact nx_size1 hf z (ny_size1 hf (fun q => z ((R.1 f hf).trans q)) ⟨(R.2.2.1 f hf).symm, R⟩)
theorem i_vc_read {k : Nat} {u : SX} {v : SY} (I : i_Rel k u v) (hk : k + 4 ≤ 2048) (v1 : Int32) (v2 : Int32) : wpX_read (fun r => wpY_read (fun r' => r' = r ∧ i_Rel (k + 4) u v) v v1 v2) u v1 v2 := by
  obtain ⟨eN, sN, wN, eL, sL, wL, yx⟩ := u
  obtain ⟨th, sz, wd, yy⟩ := v
  have R : nf_R eN sN wN eL sL wL yx th sz wd yy := I
  rcases nf_rfD eN v1 with ⟨r, h⟩ | ⟨f, hf, rfl, z⟩
  · exact nx_readR h (ny_readR (nf_rfC h R.1) ⟨rfl, R⟩)
  · have zy : ¬ th f = 0 := fun q => z ((R.1 f hf).trans q)
    obtain ⟨s, hs, es⟩ := R.2.2.2.2.2.2.2.1 f (by omega)
    have ex : sN f = nI s := (R.2.2.1 f hf).trans es
    by_cases n : v2 < 0
    · exact nx_readN hf z n (ny_readN hf zy n ⟨rfl, R⟩)
    · obtain ⟨i, hi, rfl⟩ := nI_of n
      by_cases b : i < s
      · exact nx_read1 hf z ex hs b (ny_read1 hf zy es hs b ⟨(R.2.2.2.2.1 (4 * f + i) (by omega)).symm, R⟩)
      · exact nx_readB hf z ex hi (by omega) (ny_readB hf zy es hi (by omega) ⟨rfl, R⟩)
theorem i_vc_unsafe {k : Nat} {u : SX} {v : SY} (I : i_Rel k u v) (hk : k + 4 ≤ 2048) : wpX_unsafe (fun r => wpY_unsafe (fun r' => r' = r ∧ i_Rel (k + 4) u v) v) u := by
  obtain ⟨eN, sN, wN, eL, sL, wL, yx⟩ := u
  obtain ⟨th, sz, wd, yy⟩ := v
  have R : nf_R eN sN wN eL sL wL yx th sz wd yy := I
  obtain ⟨r, hX, hY⟩ := nu_loop R 6 0 0 rfl
  rw [nI_0] at hX hY
  exact ⟨_, hX _ ⟨_, hY _ ⟨rfl, R⟩⟩⟩
theorem i_vc_digest {k : Nat} {u : SX} {v : SY} (I : i_Rel k u v) (hk : k + 4 ≤ 2048) : wpX_digest (fun r => wpY_digest (fun r' => r' = r ∧ i_Rel (k + 4) u v) v) u := by
  obtain ⟨eN, sN, wN, eL, sL, wL, yx⟩ := u
  obtain ⟨th, sz, wd, yy⟩ := v
  have R : nf_R eN sN wN eL sL wL yx th sz wd yy := I
  have hS : ∀ i, i < 6 → nf_S (sz i) := fun i hi => R.2.2.2.2.2.2.2.1 i (by omega)
  have hX : ∀ i, i < 6 → nf_S (sN i) := fun i hi => by
    rw [R.2.2.1 i hi]
    exact hS i hi
  exact nx_digest hX (ny_digest hS ⟨(nf_dgC 6 (Nat.le_refl 6) R.1 R.2.2.1 R.2.2.2.2.1 hS).symm, R⟩)
