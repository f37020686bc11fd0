section
variable {eN sN wN eL sL wL yx : Nat → Int32}
theorem nx_file0 {post : Int32 → Prop} {x : Int32} (h : x < 0 ∨ nI 6 ≤ x) (hp : post 0) : wpX_isFileNumber post x := by
  by_cases z : x < 0
  · exact br_t z hp
  · rcases h with h | h
    · exact absurd h z
    · rw [← nf_6] at h
      exact br_f z (br_t h hp)
theorem nx_file1 {post : Int32 → Prop} {f : Nat} (hf : f < 6) (hp : post 1) : wpX_isFileNumber post (nI f) :=
  br_f (nI_pos (by omega)) (br_f (nf_l6 hf) hp)
theorem nx_refR {post : Int32 → Prop} {x r : Int32} (h : nf_rf eN x r) (hp : post r) : wpX_refusalOf post (eN, sN, wN, eL, sL, wL, yx) x := by
  unfold wpX_refusalOf
  dsimp only
  rcases h with ⟨h, rfl⟩ | ⟨f, hf, rfl, z, rfl⟩
  · exact nx_file0 h (br_t rfl hp)
  · rw [nf_c (f := f) (by omega)]
    exact nx_file1 hf (br_f nf_10 ⟨nf_v6 hf, br_t z hp⟩)
theorem nx_ref1 {post : Int32 → Prop} {f : Nat} (hf : f < 6) (z : ¬ eN f = 0) (hp : post 0) : wpX_refusalOf post (eN, sN, wN, eL, sL, wL, yx) (nI f) := by
  unfold wpX_refusalOf
  dsimp only
  rw [nf_c (f := f) (by omega)]
  exact nx_file1 hf (br_f nf_10 ⟨nf_v6 hf, br_f z hp⟩)
theorem nx_create0 {post : Int32 → SX → Prop} {x : Int32} (h : x < 0 ∨ nI 6 ≤ x) (hp : post (-1) (eN, sN, wN, eL, sL, wL, yx)) : wpX_create post (eN, sN, wN, eL, sL, wL, yx) x := by
  unfold wpX_create
  dsimp only
  exact nx_file0 h (br_t rfl hp)
theorem nx_create3 {post : Int32 → SX → Prop} {f : Nat} (hf : f < 6) (z : ¬ eN f = 0) (hp : post (-3) (eN, sN, wN, eL, sL, wL, yx)) : wpX_create post (eN, sN, wN, eL, sL, wL, yx) (nI f) := by
  unfold wpX_create
  dsimp only
  rw [nf_c (f := f) (by omega)]
  exact nx_file1 hf (br_f nf_10 ⟨nf_v6 hf, br_f z hp⟩)
theorem nx_create1 {post : Int32 → SX → Prop} {f : Nat} (hf : f < 6) (z : eN f = 0) (hp : post 0 (upd eN f 1, upd sN f 0, wN, eL, sL, wL, upd yx f 1)) : wpX_create post (eN, sN, wN, eL, sL, wL, yx) (nI f) := by
  unfold wpX_create
  dsimp only
  rw [nf_c (f := f) (by omega), nf_b1]
  exact nx_file1 hf (br_f nf_10 ⟨nf_v6 hf, br_t z ⟨nf_v6 hf, nm_e ⟨nf_v6 hf, nm_e ⟨nf_v6 hf, nm_e hp⟩⟩⟩⟩)
theorem nx_removeR {post : Int32 → SX → Prop} {x r : Int32} (h : nf_rf eN x r) (hp : post r (eN, sN, wN, eL, sL, wL, yx)) : wpX_remove post (eN, sN, wN, eL, sL, wL, yx) x := by
  unfold wpX_remove
  dsimp only
  exact nx_refR h (br_f (nf_rfn h) hp)
theorem nx_remove1 {post : Int32 → SX → Prop} {f : Nat} (hf : f < 6) (z : ¬ eN f = 0) (hp : post (sN f) (upd eN f 0, sN, wN, eL, sL, wL, yx)) : wpX_remove post (eN, sN, wN, eL, sL, wL, yx) (nI f) := by
  unfold wpX_remove
  dsimp only
  rw [nf_c (f := f) (by omega), nf_b0]
  exact nx_ref1 hf z (br_t rfl ⟨nf_v6 hf, nm_e ⟨nf_v6 hf, hp⟩⟩)
theorem nx_writeR {post : Int32 → SX → Prop} {x i w r : Int32} (h : nf_rf eN x r) (hp : post r (eN, sN, wN, eL, sL, wL, yx)) : wpX_write post (eN, sN, wN, eL, sL, wL, yx) x i w := by
  unfold wpX_write
  dsimp only
  exact nx_refR h (br_f (nf_rfn h) hp)
theorem nx_writeN {post : Int32 → SX → Prop} {i w : Int32} {f : Nat} (hf : f < 6) (z : ¬ eN f = 0) (hi : i < 0) (hp : post (-1) (eN, sN, wN, eL, sL, wL, yx)) : wpX_write post (eN, sN, wN, eL, sL, wL, yx) (nI f) i w := by
  unfold wpX_write
  dsimp only
  exact nx_ref1 hf z (br_t rfl (br_t hi hp))
theorem nx_writeB {post : Int32 → SX → Prop} {w : Int32} {f s i : Nat} (hf : f < 6) (z : ¬ eN f = 0) (es : sN f = nI s) (hs : s ≤ 4) (hi : i < 2 ^ 31) (hb : s < i ∨ 4 ≤ i) (hp : post (-1) (eN, sN, wN, eL, sL, wL, yx)) : wpX_write post (eN, sN, wN, eL, sL, wL, yx) (nI f) (nI i) w := by
  unfold wpX_write
  dsimp only
  rw [nf_c (f := f) (by omega), es]
  refine nx_ref1 hf z (br_t rfl (br_f (nI_pos hi) ⟨nf_v6 hf, ?_⟩))
  by_cases h : s < i
  · exact br_t (nI_lt h hi) hp
  · refine br_f (nI_nlt (by omega) (by omega)) (br_f ?_ hp)
    rw [nf_4]
    exact nI_nlt (by omega) hi
theorem nx_writeA {post : Int32 → SX → Prop} {w : Int32} {f s i : Nat} (hf : f < 6) (z : ¬ eN f = 0) (es : sN f = nI s) (hs : s ≤ 4) (hi : i < s) (hp : post (nI s) (eN, sN, upd wN (4 * f + i) w, eL, sL, wL, yx)) : wpX_write post (eN, sN, wN, eL, sL, wL, yx) (nI f) (nI i) w := by
  unfold wpX_write
  dsimp only
  rw [nf_c (f := f) (by omega), nf_xa, nf_c (f := 4 * f + i) (by omega), es]
  refine nx_ref1 hf z (br_t rfl (br_f (nI_pos (by omega)) ⟨nf_v6 hf, br_f (nI_nlt (by omega) (by omega)) (br_t ?_ ⟨nf_v24 (by omega), nm_e ⟨nf_v6 hf, br_f ?_ ⟨nf_v6 hf, hp⟩⟩⟩)⟩))
  · rw [nf_4]
    exact nI_lt (by omega) (by omega)
  · rw [nI_eq (by omega) (by omega)]
    omega
theorem nx_writeE {post : Int32 → SX → Prop} {w : Int32} {f s : Nat} (hf : f < 6) (z : ¬ eN f = 0) (es : sN f = nI s) (hs : s < 4) (hp : post (nI (s + 1)) (eN, upd sN f (nI (s + 1)), upd wN (4 * f + s) w, eL, sL, wL, yx)) : wpX_write post (eN, sN, wN, eL, sL, wL, yx) (nI f) (nI s) w := by
  unfold wpX_write
  dsimp only
  rw [nf_c (f := f) (by omega), nf_xa, nf_c (f := 4 * f + s) (by omega), es, nI_1]
  refine nx_ref1 hf z (br_t rfl (br_f (nI_pos (by omega)) ⟨nf_v6 hf, br_f (nI_nlt (by omega) (by omega)) (br_t ?_ ⟨nf_v24 (by omega), nm_e ⟨nf_v6 hf, br_t rfl ⟨nf_v6 hf, nm_e ⟨nf_v6 hf, ?_⟩⟩⟩⟩)⟩))
  · rw [nf_4]
    exact nI_lt (by omega) (by omega)
  · rw [pk_us]
    exact hp
theorem nx_truncR {post : Int32 → SX → Prop} {x n r : Int32} (h : nf_rf eN x r) (hp : post r (eN, sN, wN, eL, sL, wL, yx)) : wpX_truncate post (eN, sN, wN, eL, sL, wL, yx) x n := by
  unfold wpX_truncate
  dsimp only
  exact nx_refR h (br_f (nf_rfn h) hp)
theorem nx_truncN {post : Int32 → SX → Prop} {n : Int32} {f : Nat} (hf : f < 6) (z : ¬ eN f = 0) (hn : n < 0) (hp : post (-1) (eN, sN, wN, eL, sL, wL, yx)) : wpX_truncate post (eN, sN, wN, eL, sL, wL, yx) (nI f) n := by
  unfold wpX_truncate
  dsimp only
  exact nx_ref1 hf z (br_t rfl ⟨nf_v6 hf, nm_e (br_t hn hp)⟩)
theorem nx_truncB {post : Int32 → SX → Prop} {f s n : Nat} (hf : f < 6) (z : ¬ eN f = 0) (es : sN f = nI s) (hn : n < 2 ^ 31) (hb : s < n) (hp : post (-1) (eN, sN, wN, eL, sL, wL, yx)) : wpX_truncate post (eN, sN, wN, eL, sL, wL, yx) (nI f) (nI n) := by
  unfold wpX_truncate
  dsimp only
  rw [nf_c (f := f) (by omega), es]
  exact nx_ref1 hf z (br_t rfl ⟨nf_v6 hf, nm_e (br_f (nI_pos hn) (br_f (nI_ge hb hn) hp))⟩)
theorem nx_trunc1 {post : Int32 → SX → Prop} {f s n : Nat} (hf : f < 6) (z : ¬ eN f = 0) (es : sN f = nI s) (hs : s ≤ 4) (hn : n ≤ s) (hp : post (nI s) (eN, upd sN f (nI n), wN, eL, sL, wL, yx)) : wpX_truncate post (eN, sN, wN, eL, sL, wL, yx) (nI f) (nI n) := by
  unfold wpX_truncate
  dsimp only
  rw [nf_c (f := f) (by omega), es]
  exact nx_ref1 hf z (br_t rfl ⟨nf_v6 hf, nm_e (br_f (nI_pos (by omega)) (br_t (nI_le hn (by omega)) ⟨nf_v6 hf, nm_e hp⟩))⟩)
theorem nx_cwNN {post : SX → Prop} {f g : Nat} (hf : f < 6) (hg : g < 6) (hp : post (eN, sN, nf_cp wN wN (4 * g) (4 * f) 4, eL, sL, wL, yx)) : ∀ d i : Nat, i + d = 4 → wX_copyWords__wordsNow_wordsNow_3 post (nI g) (nI f) (d + 1) (nI i) eN sN (nf_cp wN wN (4 * g) (4 * f) i) eL sL wL yx := by
  intro d
  induction d with
  | zero =>
    intro i hi
    obtain rfl : i = 4 := by omega
    exact br_t nf_g4 hp
  | succ d ih =>
    intro i hi
    refine br_f (nf_l4 (by omega)) ?_
    rw [nf_xa, nf_xa, nf_c (f := 4 * g + i) (by omega), nf_c (f := 4 * f + i) (by omega)]
    exact ⟨nf_v24 (by omega), nf_v24 (by omega), nm_r (nf_c1 rfl (nf_co (by omega))) (nm_r (nI_1 i) (ih (i + 1) (by omega)))⟩
theorem nx_copyNN {post : SX → Prop} {f g : Nat} (hf : f < 6) (hg : g < 6) (hp : post (eN, sN, nf_cp wN wN (4 * g) (4 * f) 4, eL, sL, wL, yx)) : wpX_copyWords__wordsNow_wordsNow post (eN, sN, wN, eL, sL, wL, yx) (nI g) (nI f) := by
  have h := nx_cwNN hf hg hp 4 0 rfl
  rw [nf_cz, nI_0] at h
  exact ⟨_, h⟩
theorem nx_cwNL {post : SX → Prop} {f : Nat} (hf : f < 6) (hp : post (eN, sN, wN, eL, sL, nf_cp wN wL (4 * f) (4 * f) 4, yx)) : ∀ d i : Nat, i + d = 4 → wX_copyWords__wordsNow_wordsLasting_3 post (nI f) (nI f) (d + 1) (nI i) eN sN wN eL sL (nf_cp wN wL (4 * f) (4 * f) i) yx := by
  intro d
  induction d with
  | zero =>
    intro i hi
    obtain rfl : i = 4 := by omega
    exact br_t nf_g4 hp
  | succ d ih =>
    intro i hi
    refine br_f (nf_l4 (by omega)) ?_
    rw [nf_xa, nf_c (f := 4 * f + i) (by omega)]
    exact ⟨nf_v24 (by omega), nf_v24 (by omega), nm_r (nf_c1 rfl rfl) (nm_r (nI_1 i) (ih (i + 1) (by omega)))⟩
theorem nx_copyNL {post : SX → Prop} {f : Nat} (hf : f < 6) (hp : post (eN, sN, wN, eL, sL, nf_cp wN wL (4 * f) (4 * f) 4, yx)) : wpX_copyWords__wordsNow_wordsLasting post (eN, sN, wN, eL, sL, wL, yx) (nI f) (nI f) := by
  have h := nx_cwNL hf hp 4 0 rfl
  rw [nf_cz, nI_0] at h
  exact ⟨_, h⟩
theorem nx_cwLN {post : SX → Prop} {f : Nat} (hf : f < 6) (hp : post (eN, sN, nf_cp wL wN (4 * f) (4 * f) 4, eL, sL, wL, yx)) : ∀ d i : Nat, i + d = 4 → wX_copyWords__wordsLasting_wordsNow_3 post (nI f) (nI f) (d + 1) (nI i) eN sN (nf_cp wL wN (4 * f) (4 * f) i) eL sL wL yx := by
  intro d
  induction d with
  | zero =>
    intro i hi
    obtain rfl : i = 4 := by omega
    exact br_t nf_g4 hp
  | succ d ih =>
    intro i hi
    refine br_f (nf_l4 (by omega)) ?_
    rw [nf_xa, nf_c (f := 4 * f + i) (by omega)]
    exact ⟨nf_v24 (by omega), nf_v24 (by omega), nm_r (nf_c1 rfl rfl) (nm_r (nI_1 i) (ih (i + 1) (by omega)))⟩
theorem nx_copyLN {post : SX → Prop} {f : Nat} (hf : f < 6) (hp : post (eN, sN, nf_cp wL wN (4 * f) (4 * f) 4, eL, sL, wL, yx)) : wpX_copyWords__wordsLasting_wordsNow post (eN, sN, wN, eL, sL, wL, yx) (nI f) (nI f) := by
  have h := nx_cwLN hf hp 4 0 rfl
  rw [nf_cz, nI_0] at h
  exact ⟨_, h⟩
theorem nx_copy0 {post : Int32 → SX → Prop} {x y : Int32} (h : (x < 0 ∨ nI 6 ≤ x) ∨ ((∃ f, f < 6 ∧ x = nI f) ∧ (y < 0 ∨ nI 6 ≤ y))) (hp : post (-1) (eN, sN, wN, eL, sL, wL, yx)) : wpX_copy post (eN, sN, wN, eL, sL, wL, yx) x y := by
  unfold wpX_copy
  dsimp only
  rcases h with h | ⟨⟨f, hf, rfl⟩, h⟩
  · exact nx_file0 h (br_t rfl hp)
  · exact nx_file1 hf (br_f nf_10 (nx_file0 h (br_t rfl hp)))
theorem nx_copy3 {post : Int32 → SX → Prop} {f g : Nat} (hf : f < 6) (hg : g < 6) (z : eN f = 0 ∨ eN g = 0) (hp : post (-3) (eN, sN, wN, eL, sL, wL, yx)) : wpX_copy post (eN, sN, wN, eL, sL, wL, yx) (nI f) (nI g) := by
  unfold wpX_copy
  dsimp only
  rw [nf_c (f := f) (by omega)]
  refine nx_file1 hf (br_f nf_10 (nx_file1 hg (br_f nf_10 ⟨nf_v6 hf, ?_⟩)))
  by_cases zf : eN f = 0
  · exact br_t zf hp
  · rcases z with z | z
    · exact absurd z zf
    · refine br_f zf ⟨nf_v6 hg, br_t ?_ hp⟩
      rw [nf_c (f := g) (by omega)]
      exact z
theorem nx_copy1 {post : Int32 → SX → Prop} {f g : Nat} (hf : f < 6) (hg : g < 6) (zf : ¬ eN f = 0) (zg : ¬ eN g = 0) (hp : post (sN g) (eN, upd sN f (sN g), nf_cp wN wN (4 * g) (4 * f) 4, eL, sL, wL, yx)) : wpX_copy post (eN, sN, wN, eL, sL, wL, yx) (nI f) (nI g) := by
  have cf : (nI f).toNatClampNeg = f := nf_c (by omega)
  have cg : (nI g).toNatClampNeg = g := nf_c (by omega)
  unfold wpX_copy
  dsimp only
  refine nx_file1 hf (br_f nf_10 (nx_file1 hg (br_f nf_10 ⟨nf_v6 hf, br_f ?_ ⟨nf_v6 hg, br_f ?_ ⟨nf_v6 hg, nf_v6 hf, ?_⟩⟩⟩)))
  · rw [cf]
    exact zf
  · rw [cg]
    exact zg
  · rw [cf, cg]
    refine nm_e (nx_copyNN hf hg ?_)
    refine ⟨nf_v6 hf, ?_⟩
    dsimp only
    rw [pk_us]
    exact hp
theorem nx_last {post : SX → Prop} {f : Nat} (hf : f < 6) (hB : nf_B (eN f)) (hp : post (eN, sN, wN, upd eL f (eN f), upd sL f (sN f), nf_cp wN wL (4 * f) (4 * f) 4, yx)) : wpX_makeLast post (eN, sN, wN, eL, sL, wL, yx) (nI f) := by
  unfold wpX_makeLast
  dsimp only
  rw [nf_c (f := f) (by omega), nf_bv hB]
  exact ⟨nf_v6 hf, nf_v6 hf, nm_e ⟨nf_v6 hf, nf_v6 hf, nm_e (nx_copyNL hf hp)⟩⟩
theorem nx_mc {post : SX → Prop} (hB : ∀ i, i < 6 → nf_B (eN i)) (hp : post (eN, sN, wN, nf_cp eN eL 0 0 6, nf_cp sN sL 0 0 6, nf_cp wN wL 0 0 24, nf_cp (fun _ => 0) yx 0 0 6)) : ∀ d i : Nat, i + d = 6 → wX_makeCheckpoint_2 post (d + 1) (nI i) eN sN wN (nf_cp eN eL 0 0 i) (nf_cp sN sL 0 0 i) (nf_cp wN wL 0 0 (4 * i)) (nf_cp (fun _ => 0) yx 0 0 i) := by
  intro d
  induction d with
  | zero =>
    intro i hi
    obtain rfl : i = 6 := by omega
    exact br_t nf_g6 hp
  | succ d ih =>
    intro i hi
    have k := ih (i + 1) (by omega)
    refine br_f (nf_l6 (by omega)) (nx_last (by omega) (hB i (by omega)) ?_)
    dsimp only
    rw [nf_c (f := i) (by omega), nf_b0]
    refine ⟨nf_v6 (by omega), nm_e (nm_r (nI_1 i) ?_)⟩
    rw [nf_c1 (a := eN) (by omega) (congrArg eN (by omega)), nf_c1 (a := sN) (by omega) (congrArg sN (by omega)), nf_cc (by omega) (by omega) (fun _ _ => rfl), nf_c1 (a := fun _ => 0) (by omega) rfl]
    exact k
theorem nx_ckpt {post : SX → Prop} (hB : ∀ i, i < 6 → nf_B (eN i)) (hp : post (eN, sN, wN, nf_cp eN eL 0 0 6, nf_cp sN sL 0 0 6, nf_cp wN wL 0 0 24, nf_cp (fun _ => 0) yx 0 0 6)) : wpX_makeCheckpoint post (eN, sN, wN, eL, sL, wL, yx) := by
  have h := nx_mc hB hp 6 0 rfl
  rw [Nat.mul_zero, nf_cz, nf_cz, nf_cz, nf_cz, nI_0] at h
  exact ⟨_, h⟩
theorem nx_fsyncR {post : Int32 → SX → Prop} {x r : Int32} (h : nf_rf eN x r) (hp : post r (eN, sN, wN, eL, sL, wL, yx)) : wpX_fsync post (eN, sN, wN, eL, sL, wL, yx) x := by
  unfold wpX_fsync
  dsimp only
  exact nx_refR h (br_f (nf_rfn h) hp)
theorem nx_fsync0 {post : Int32 → SX → Prop} {f : Nat} (hf : f < 6) (z : ¬ eN f = 0) (hB : nf_B (eN f)) (y : yx f = 0) (hp : post 0 (eN, sN, wN, upd eL f (eN f), upd sL f (sN f), nf_cp wN wL (4 * f) (4 * f) 4, yx)) : wpX_fsync post (eN, sN, wN, eL, sL, wL, yx) (nI f) := by
  unfold wpX_fsync
  dsimp only
  rw [nf_c (f := f) (by omega)]
  exact nx_ref1 hf z (br_t rfl ⟨nf_v6 hf, br_t y (nx_last hf hB hp)⟩)
theorem nx_fsync1 {post : Int32 → SX → Prop} {f : Nat} (hf : f < 6) (z : ¬ eN f = 0) (hB : ∀ i, i < 6 → nf_B (eN i)) (y : ¬ yx f = 0) (hp : post 1 (eN, sN, wN, nf_cp eN eL 0 0 6, nf_cp sN sL 0 0 6, nf_cp wN wL 0 0 24, nf_cp (fun _ => 0) yx 0 0 6)) : wpX_fsync post (eN, sN, wN, eL, sL, wL, yx) (nI f) := by
  unfold wpX_fsync
  dsimp only
  rw [nf_c (f := f) (by omega)]
  exact nx_ref1 hf z (br_t rfl ⟨nf_v6 hf, br_f y (nx_ckpt hB hp)⟩)
theorem nx_cl {post : Int32 → Prop} (hp : post (nf_cnt eN 6)) : ∀ d i : Nat, i + d = 6 → wX_countExisting_4 post eN sN wN eL sL wL yx (d + 1) (nf_cnt eN i) (nI i) := by
  intro d
  induction d with
  | zero =>
    intro i hi
    obtain rfl : i = 6 := by omega
    exact br_t nf_g6 hp
  | succ d ih =>
    intro i hi
    have k := ih (i + 1) (by omega)
    refine br_f (nf_l6 (by omega)) ⟨nf_v6 (by omega), ?_⟩
    rw [nf_c (f := i) (by omega)]
    by_cases z : eN i = 0
    · rw [nf_cnt0 z] at k
      exact br_t z (nm_r (nI_1 i) k)
    · rw [nf_cnt1 z] at k
      exact br_f z (nm_e (nm_r (nI_1 i) k))
theorem nx_count {post : Int32 → Prop} (hp : post (nf_cnt eN 6)) : wpX_countExisting post (eN, sN, wN, eL, sL, wL, yx) := by
  have h := nx_cl (sN := sN) (wN := wN) (eL := eL) (sL := sL) (wL := wL) (yx := yx) hp 6 0 rfl
  rw [nI_0] at h
  exact ⟨_, h⟩
theorem nx_sync {post : Int32 → SX → Prop} (hB : ∀ i, i < 6 → nf_B (eN i)) (hp : post (nf_cnt eN 6) (eN, sN, wN, nf_cp eN eL 0 0 6, nf_cp sN sL 0 0 6, nf_cp wN wL 0 0 24, nf_cp (fun _ => 0) yx 0 0 6)) : wpX_sync post (eN, sN, wN, eL, sL, wL, yx) := by
  unfold wpX_sync
  dsimp only
  refine nx_ckpt hB ?_
  exact nx_count hp
theorem nx_cr {post : Int32 → SX → Prop} (hB : ∀ i, i < 6 → nf_B (eL i)) (hp : post (nf_cnt (nf_cp eL eN 0 0 6) 6) (nf_cp eL eN 0 0 6, nf_cp sL sN 0 0 6, nf_cp wL wN 0 0 24, eL, sL, wL, nf_cp (fun _ => 0) yx 0 0 6)) : ∀ d i : Nat, i + d = 6 → wX_crash_2 post (d + 1) (nI i) (nf_cp eL eN 0 0 i) (nf_cp sL sN 0 0 i) (nf_cp wL wN 0 0 (4 * i)) eL sL wL (nf_cp (fun _ => 0) yx 0 0 i) := by
  intro d
  induction d with
  | zero =>
    intro i hi
    obtain rfl : i = 6 := by omega
    refine br_t nf_g6 ?_
    exact nx_count hp
  | succ d ih =>
    intro i hi
    have k := ih (i + 1) (by omega)
    refine br_f (nf_l6 (by omega)) ?_
    rw [nf_c (f := i) (by omega), nf_bv (hB i (by omega))]
    refine ⟨nf_v6 (by omega), nf_v6 (by omega), nm_e ⟨nf_v6 (by omega), nf_v6 (by omega), nm_e (nx_copyLN (by omega) ?_)⟩⟩
    dsimp only
    rw [nf_b0]
    refine ⟨nf_v6 (by omega), nm_e (nm_r (nI_1 i) ?_)⟩
    rw [nf_c1 (a := eL) (by omega) (congrArg eL (by omega)), nf_c1 (a := sL) (by omega) (congrArg sL (by omega)), nf_cc (by omega) (by omega) (fun _ _ => rfl), nf_c1 (a := fun _ => 0) (by omega) rfl]
    exact k
theorem nx_crash {post : Int32 → SX → Prop} (hB : ∀ i, i < 6 → nf_B (eL i)) (hp : post (nf_cnt (nf_cp eL eN 0 0 6) 6) (nf_cp eL eN 0 0 6, nf_cp sL sN 0 0 6, nf_cp wL wN 0 0 24, eL, sL, wL, nf_cp (fun _ => 0) yx 0 0 6)) : wpX_crash post (eN, sN, wN, eL, sL, wL, yx) := by
  have h := nx_cr hB hp 6 0 rfl
  rw [Nat.mul_zero, nf_cz, nf_cz, nf_cz, nf_cz, nI_0] at h
  exact ⟨_, h⟩
theorem nx_existsR {post : Int32 → Prop} {x r : Int32} (h : nf_rf eN x r) (hp : post 0) : wpX_exists post (eN, sN, wN, eL, sL, wL, yx) x := by
  unfold wpX_exists
  dsimp only
  rcases h with ⟨h, rfl⟩ | ⟨f, hf, rfl, z, rfl⟩
  · exact nx_file0 h (br_t rfl hp)
  · rw [nf_c (f := f) (by omega)]
    exact nx_file1 hf (br_f nf_10 ⟨nf_v6 hf, br_t z hp⟩)
theorem nx_exists1 {post : Int32 → Prop} {f : Nat} (hf : f < 6) (z : ¬ eN f = 0) (hp : post 1) : wpX_exists post (eN, sN, wN, eL, sL, wL, yx) (nI f) := by
  unfold wpX_exists
  dsimp only
  rw [nf_c (f := f) (by omega)]
  exact nx_file1 hf (br_f nf_10 ⟨nf_v6 hf, br_f z hp⟩)
theorem nx_sizeR {post : Int32 → Prop} {x r : Int32} (h : nf_rf eN x r) (hp : post r) : wpX_size post (eN, sN, wN, eL, sL, wL, yx) x := by
  unfold wpX_size
  dsimp only
  exact nx_refR h (br_f (nf_rfn h) hp)
theorem nx_size1 {post : Int32 → Prop} {f : Nat} (hf : f < 6) (z : ¬ eN f = 0) (hp : post (sN f)) : wpX_size post (eN, sN, wN, eL, sL, wL, yx) (nI f) := by
  unfold wpX_size
  dsimp only
  rw [nf_c (f := f) (by omega)]
  exact nx_ref1 hf z (br_t rfl ⟨nf_v6 hf, hp⟩)
theorem nx_readR {post : Int32 → Prop} {x i r : Int32} (h : nf_rf eN x r) (hp : post 0) : wpX_read post (eN, sN, wN, eL, sL, wL, yx) x i := by
  unfold wpX_read
  dsimp only
  exact nx_refR h (br_f (nf_rfn h) hp)
theorem nx_readN {post : Int32 → Prop} {i : Int32} {f : Nat} (hf : f < 6) (z : ¬ eN f = 0) (hi : i < 0) (hp : post 0) : wpX_read post (eN, sN, wN, eL, sL, wL, yx) (nI f) i := by
  unfold wpX_read
  dsimp only
  exact nx_ref1 hf z (br_t rfl (br_t hi hp))
theorem nx_readB {post : Int32 → Prop} {f s i : Nat} (hf : f < 6) (z : ¬ eN f = 0) (es : sN f = nI s) (hi : i < 2 ^ 31) (hb : s ≤ i) (hp : post 0) : wpX_read post (eN, sN, wN, eL, sL, wL, yx) (nI f) (nI i) := by
  unfold wpX_read
  dsimp only
  rw [nf_c (f := f) (by omega), es]
  exact nx_ref1 hf z (br_t rfl (br_f (nI_pos hi) ⟨nf_v6 hf, br_f (nI_nlt hb hi) hp⟩))
theorem nx_read1 {post : Int32 → Prop} {f s i : Nat} (hf : f < 6) (z : ¬ eN f = 0) (es : sN f = nI s) (hs : s ≤ 4) (hi : i < s) (hp : post (wN (4 * f + i))) : wpX_read post (eN, sN, wN, eL, sL, wL, yx) (nI f) (nI i) := by
  unfold wpX_read
  dsimp only
  rw [nf_c (f := f) (by omega), nf_xa, nf_c (f := 4 * f + i) (by omega), es]
  exact nx_ref1 hf z (br_t rfl (br_f (nI_pos (by omega)) ⟨nf_v6 hf, br_t (nI_lt hi (by omega)) ⟨nf_v24 (by omega), hp⟩⟩))
theorem nx_df {post : Int32 → Prop} {B : Int32} {f s : Nat} (hf : f < 6) (es : sN f = nI s) (hs : s ≤ 4) (hp : post (B + nf_pw wN f s)) : ∀ d i : Nat, i + d = s → wX_digestOfFile_19 post (nI f) eN sN wN eL sL wL yx (d + 1) (B + nf_pw wN f i) (nI i) := by
  intro d
  induction d with
  | zero =>
    intro i hi
    obtain rfl : i = s := by omega
    refine ⟨nf_v6 hf, ?_⟩
    rw [nf_c (f := f) (by omega), es]
    exact br_t (nI_le (Nat.le_refl _) (by omega)) hp
  | succ d ih =>
    intro i hi
    refine ⟨nf_v6 hf, ?_⟩
    rw [nf_c (f := f) (by omega), es, nf_xa, nf_c (f := 4 * f + i) (by omega)]
    exact br_f (nI_ge (by omega) (by omega)) ⟨nf_v24 (by omega), nm_r (Int32.add_assoc _ _ _) (nm_r (nI_1 i) (ih (i + 1) (by omega)))⟩
theorem nx_dof {post : Int32 → Prop} {f s : Nat} (hf : f < 6) (es : sN f = nI s) (hs : s ≤ 4) (hp : post (1000 * (nI f + 1) * (sN f + 1) + nf_pw wN f (sN f).toNatClampNeg)) : wpX_digestOfFile post (eN, sN, wN, eL, sL, wL, yx) (nI f) := by
  have ec : (sN f).toNatClampNeg = s := by
    rw [es]
    exact nf_c (by omega)
  rw [ec] at hp
  have h := nx_df (eN := eN) (eL := eL) (sL := sL) (wL := wL) (yx := yx) hf es hs hp s 0 (by omega)
  rw [nI_0, show nf_pw wN f 0 = 0 from rfl, Int32.add_zero] at h
  unfold wpX_digestOfFile
  dsimp only
  rw [nf_c (f := f) (by omega)]
  exact ⟨nf_v6 hf, nm_e ⟨_, h⟩⟩
theorem nx_dl {post : Int32 → Prop} (hS : ∀ i, i < 6 → nf_S (sN i)) (hp : post (nf_dg eN sN wN 6)) : ∀ d i : Nat, i + d = 6 → wX_digest_4 post eN sN wN eL sL wL yx (d + 1) (nf_dg eN sN wN i) (nI i) := by
  intro d
  induction d with
  | zero =>
    intro i hi
    obtain rfl : i = 6 := by omega
    exact br_t nf_g6 hp
  | succ d ih =>
    intro i hi
    have k := ih (i + 1) (by omega)
    refine br_f (nf_l6 (by omega)) ⟨nf_v6 (by omega), ?_⟩
    rw [nf_c (f := i) (by omega)]
    by_cases z : eN i = 0
    · rw [nf_dg0 z] at k
      exact br_t z (nm_r (nI_1 i) k)
    · rw [nf_dg1 z] at k
      obtain ⟨s, hs, es⟩ := hS i (by omega)
      refine br_f z (nx_dof (by omega) es hs ?_)
      exact nm_e (nm_r (nI_1 i) k)
theorem nx_digest {post : Int32 → Prop} (hS : ∀ i, i < 6 → nf_S (sN i)) (hp : post (nf_dg eN sN wN 6)) : wpX_digest post (eN, sN, wN, eL, sL, wL, yx) := by
  have h := nx_dl (eL := eL) (sL := sL) (wL := wL) (yx := yx) hS hp 6 0 rfl
  rw [nI_0] at h
  exact ⟨_, h⟩
end
