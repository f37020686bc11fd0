section
variable {th sz wd yy : Nat → Int32}
theorem ny_file0 {post : Int32 → Prop} {x : Int32} (h : x < 0 ∨ nI 6 ≤ x) (hp : post 0) : wpY_isFile post (th, sz, wd, yy) x := by
  by_cases z : x < 0
  · exact br_t z hp
  · rcases h with h | h
    · exact absurd h z
    · refine br_f z (br_t ?_ hp)
      rw [Int32.le_iff_toInt_le, nI_toInt (by decide)] at h
      rw [Int32.lt_iff_toInt_lt, nf_5, nI_toInt (by decide)]
      omega
theorem ny_file1 {post : Int32 → Prop} {f : Nat} (hf : f < 6) (hp : post 1) : wpY_isFile post (th, sz, wd, yy) (nI f) := by
  refine br_f (nI_pos (by omega)) (br_f ?_ hp)
  rw [nf_5]
  exact nI_nlt (by omega) (by omega)
theorem ny_testR {post : Int32 → Prop} {x r : Int32} (h : nf_rf th x r) (hp : post r) : wpY_test post (th, sz, wd, yy) x := by
  unfold wpY_test
  dsimp only
  rcases h with ⟨h, rfl⟩ | ⟨f, hf, rfl, z, rfl⟩
  · exact ny_file0 h (br_t rfl hp)
  · rw [nf_c (f := f) (by omega)]
    exact ny_file1 hf (br_f nf_10 ⟨nf_v12 (by omega), br_t z hp⟩)
theorem ny_test1 {post : Int32 → Prop} {f : Nat} (hf : f < 6) (z : ¬ th f = 0) (hp : post 0) : wpY_test post (th, sz, wd, yy) (nI f) := by
  unfold wpY_test
  dsimp only
  rw [nf_c (f := f) (by omega)]
  exact ny_file1 hf (br_f nf_10 ⟨nf_v12 (by omega), br_f z hp⟩)
theorem nf_00 : (0 : Int32) ≤ 0 := by decide
theorem ny_create0 {post : Int32 → SY → Prop} {x : Int32} (h : x < 0 ∨ nI 6 ≤ x) (hp : post (-1) (th, sz, wd, yy)) : wpY_create post (th, sz, wd, yy) x := by
  unfold wpY_create
  dsimp only
  exact ny_file0 h (br_t rfl hp)
theorem ny_create3 {post : Int32 → SY → Prop} {f : Nat} (hf : f < 6) (z : ¬ th f = 0) (hp : post (-3) (th, sz, wd, yy)) : wpY_create post (th, sz, wd, yy) (nI f) := by
  unfold wpY_create
  dsimp only
  rw [nf_c (f := f) (by omega)]
  exact ny_file1 hf (br_f nf_10 ⟨nf_v12 (by omega), br_f z hp⟩)
theorem ny_create1 {post : Int32 → SY → Prop} {f : Nat} (hf : f < 6) (z : th f = 0) (hp : post 0 (upd th f 1, upd sz f 0, wd, upd yy f 1)) : wpY_create post (th, sz, wd, yy) (nI f) := by
  unfold wpY_create
  dsimp only
  rw [nf_c (f := f) (by omega), nf_b1]
  exact ny_file1 hf (br_f nf_10 ⟨nf_v12 (by omega), br_t z ⟨nf_v12 (by omega), nm_e ⟨nf_v12 (by omega), nm_e ⟨nf_v6 hf, nm_e hp⟩⟩⟩⟩)
theorem ny_removeR {post : Int32 → SY → Prop} {x r : Int32} (h : nf_rf th x r) (hp : post r (th, sz, wd, yy)) : wpY_remove post (th, sz, wd, yy) x := by
  unfold wpY_remove
  dsimp only
  exact ny_testR h (br_f (nf_rfm h) hp)
theorem ny_remove1 {post : Int32 → SY → Prop} {f : Nat} (hf : f < 6) (z : ¬ th f = 0) (hp : post (sz f) (upd th f 0, sz, wd, upd yy f 0)) : wpY_remove post (th, sz, wd, yy) (nI f) := by
  unfold wpY_remove
  dsimp only
  rw [nf_c (f := f) (by omega), nf_b0]
  exact ny_test1 hf z (br_t nf_00 ⟨nf_v12 (by omega), nm_e ⟨nf_v6 hf, nm_e ⟨nf_v12 (by omega), hp⟩⟩⟩)
theorem ny_writeR {post : Int32 → SY → Prop} {x i w r : Int32} (h : nf_rf th x r) (hp : post r (th, sz, wd, yy)) : wpY_write post (th, sz, wd, yy) x i w := by
  unfold wpY_write
  dsimp only
  exact ny_testR h (br_f (nf_rfm h) hp)
theorem ny_writeN {post : Int32 → SY → Prop} {i w : Int32} {f : Nat} (hf : f < 6) (z : ¬ th f = 0) (hi : i < 0) (hp : post (-1) (th, sz, wd, yy)) : wpY_write post (th, sz, wd, yy) (nI f) i w := by
  unfold wpY_write
  dsimp only
  exact ny_test1 hf z (br_t nf_00 (br_t hi hp))
theorem ny_writeB {post : Int32 → SY → Prop} {w : Int32} {f s i : Nat} (hf : f < 6) (z : ¬ th f = 0) (es : sz f = nI s) (hs : s ≤ 4) (hi : i < 2 ^ 31) (hb : s < i ∨ 4 ≤ i) (hp : post (-1) (th, sz, wd, yy)) : wpY_write post (th, sz, wd, yy) (nI f) (nI i) w := by
  unfold wpY_write
  dsimp only
  rw [nf_c (f := f) (by omega), es]
  refine ny_test1 hf z (br_t nf_00 (br_f (nI_pos hi) ⟨nf_v12 (by omega), ?_⟩))
  by_cases h : s < i
  · exact br_t (nI_lt h hi) hp
  · obtain rfl : i = 4 := by omega
    exact br_f (nI_nlt (by omega) (by omega)) (br_t nf_4.symm hp)
theorem ny_writeA {post : Int32 → SY → Prop} {w : Int32} {f s i : Nat} (hf : f < 6) (z : ¬ th f = 0) (es : sz f = nI s) (hs : s ≤ 4) (hi : i < s) (hp : post (nI s) (th, sz, upd wd (4 * f + i) w, yy)) : wpY_write post (th, sz, wd, yy) (nI f) (nI i) w := by
  unfold wpY_write
  dsimp only
  rw [nf_c (f := f) (by omega), nf_ya, nf_c (f := 4 * f + i) (by omega), nf_us, es]
  refine ny_test1 hf z (br_t nf_00 (br_f (nI_pos (by omega)) ⟨nf_v12 (by omega), br_f (nI_nlt (by omega) (by omega)) (br_f ?_ ⟨nf_v48 (by omega), nm_e ⟨nf_v12 (by omega), br_f ?_ ⟨nf_v12 (by omega), nf_v12 (by omega), nm_e ⟨nf_v12 (by omega), ?_⟩⟩⟩⟩)⟩))
  · rw [nf_4, nI_eq (by omega) (by omega)]
    omega
  · rw [nI_eq (by omega) (by omega)]
    omega
  · rw [es]
    exact hp
theorem ny_writeE {post : Int32 → SY → Prop} {w : Int32} {f s : Nat} (hf : f < 6) (z : ¬ th f = 0) (es : sz f = nI s) (hs : s < 4) (hp : post (nI (s + 1)) (th, upd sz f (nI (s + 1)), upd wd (4 * f + s) w, yy)) : wpY_write post (th, sz, wd, yy) (nI f) (nI s) w := by
  unfold wpY_write
  dsimp only
  rw [nf_c (f := f) (by omega), nf_ya, nf_c (f := 4 * f + s) (by omega), es, nI_1]
  refine ny_test1 hf z (br_t nf_00 (br_f (nI_pos (by omega)) ⟨nf_v12 (by omega), br_f (nI_nlt (by omega) (by omega)) (br_f ?_ ⟨nf_v48 (by omega), nm_e ⟨nf_v12 (by omega), br_t rfl ⟨nf_v12 (by omega), nm_e ⟨nf_v12 (by omega), ?_⟩⟩⟩⟩)⟩))
  · rw [nf_4, nI_eq (by omega) (by omega)]
    omega
  · rw [pk_us]
    exact hp
theorem ny_truncR {post : Int32 → SY → Prop} {x n r : Int32} (h : nf_rf th x r) (hp : post r (th, sz, wd, yy)) : wpY_truncate post (th, sz, wd, yy) x n := by
  unfold wpY_truncate
  dsimp only
  exact ny_testR h (br_f (nf_rfm h) hp)
theorem ny_truncN {post : Int32 → SY → Prop} {n : Int32} {f : Nat} (hf : f < 6) (z : ¬ th f = 0) (hn : n < 0) (hp : post (-1) (th, sz, wd, yy)) : wpY_truncate post (th, sz, wd, yy) (nI f) n := by
  unfold wpY_truncate
  dsimp only
  exact ny_test1 hf z (br_t nf_00 (br_t hn hp))
theorem ny_truncB {post : Int32 → SY → Prop} {f s n : Nat} (hf : f < 6) (z : ¬ th f = 0) (es : sz f = nI s) (hn : n < 2 ^ 31) (hb : s < n) (hp : post (-1) (th, sz, wd, yy)) : wpY_truncate post (th, sz, wd, yy) (nI f) (nI n) := by
  unfold wpY_truncate
  dsimp only
  rw [nf_c (f := f) (by omega), es]
  exact ny_test1 hf z (br_t nf_00 (br_f (nI_pos hn) ⟨nf_v12 (by omega), br_f (nI_ge hb hn) hp⟩))
theorem ny_trunc1 {post : Int32 → SY → Prop} {f s n : Nat} (hf : f < 6) (z : ¬ th f = 0) (es : sz f = nI s) (hs : s ≤ 4) (hn : n ≤ s) (hp : post (nI s) (th, upd sz f (nI n), wd, yy)) : wpY_truncate post (th, sz, wd, yy) (nI f) (nI n) := by
  unfold wpY_truncate
  dsimp only
  rw [nf_c (f := f) (by omega), es]
  exact ny_test1 hf z (br_t nf_00 (br_f (nI_pos (by omega)) ⟨nf_v12 (by omega), br_t (nI_le hn (by omega)) ⟨nf_v12 (by omega), nm_e ⟨nf_v12 (by omega), nm_e hp⟩⟩⟩))
theorem ny_cl {post : SY → Prop} {a b : Nat} (ha : a < 12) (hb : b < 12) (hp : post (th, sz, nf_cp wd wd (4 * a) (4 * b) 4, yy)) : ∀ d i : Nat, i + d = 4 → wY_copyContent_14 post (nI a) (nI b) (d + 1) (nI i) th sz (nf_cp wd wd (4 * a) (4 * b) i) yy := by
  intro d
  induction d with
  | zero =>
    intro i hi
    obtain rfl : i = 4 := by omega
    exact br_t nf_g4 hp
  | succ d ih =>
    intro i hi
    refine br_f (nf_l4 (by omega)) ?_
    rw [nf_ya, nf_ya, nf_c (f := 4 * a + i) (by omega), nf_c (f := 4 * b + i) (by omega)]
    exact ⟨nf_v48 (by omega), nf_v48 (by omega), nm_r (nf_c1 rfl (nf_co (by omega))) (nm_r (nI_1 i) (ih (i + 1) (by omega)))⟩
theorem ny_cc {post : SY → Prop} {a b : Nat} (ha : a < 12) (hb : b < 12) (hp : post (th, upd sz b (sz a), nf_cp wd wd (4 * a) (4 * b) 4, yy)) : wpY_copyContent post (th, sz, wd, yy) (nI a) (nI b) := by
  have h := ny_cl ha hb hp 4 0 rfl
  rw [nf_cz, nI_0] at h
  unfold wpY_copyContent
  dsimp only
  rw [nf_c (f := a) (by omega), nf_c (f := b) (by omega)]
  exact ⟨nf_v12 ha, nf_v12 hb, nm_e ⟨_, h⟩⟩
theorem ny_copy0 {post : Int32 → SY → Prop} {x y : Int32} (h : (x < 0 ∨ nI 6 ≤ x) ∨ ((∃ f, f < 6 ∧ x = nI f) ∧ (y < 0 ∨ nI 6 ≤ y))) (hp : post (-1) (th, sz, wd, yy)) : wpY_copy post (th, sz, wd, yy) x y := by
  unfold wpY_copy
  dsimp only
  rcases h with h | ⟨⟨f, hf, rfl⟩, h⟩
  · exact ny_file0 h (br_t rfl hp)
  · exact ny_file1 hf (br_f nf_10 (ny_file0 h (br_t rfl hp)))
theorem ny_copy3 {post : Int32 → SY → Prop} {f g : Nat} (hf : f < 6) (hg : g < 6) (z : th f = 0 ∨ th g = 0) (hp : post (-3) (th, sz, wd, yy)) : wpY_copy post (th, sz, wd, yy) (nI f) (nI g) := by
  unfold wpY_copy
  dsimp only
  rw [nf_c (f := f) (by omega)]
  refine ny_file1 hf (br_f nf_10 (ny_file1 hg (br_f nf_10 ⟨nf_v12 (by omega), ?_⟩)))
  by_cases zf : th f = 0
  · exact br_t zf hp
  · rcases z with z | z
    · exact absurd z zf
    · refine br_f zf ⟨nf_v12 (by omega), br_t ?_ hp⟩
      rw [nf_c (f := g) (by omega)]
      exact z
theorem ny_copy1 {post : Int32 → SY → Prop} {f g : Nat} (hf : f < 6) (hg : g < 6) (zf : ¬ th f = 0) (zg : ¬ th g = 0) (hp : post (sz g) (th, upd sz f (sz g), nf_cp wd wd (4 * g) (4 * f) 4, yy)) : wpY_copy post (th, sz, wd, yy) (nI f) (nI g) := by
  have cf : (nI f).toNatClampNeg = f := nf_c (by omega)
  have cg : (nI g).toNatClampNeg = g := nf_c (by omega)
  unfold wpY_copy
  dsimp only
  refine ny_file1 hf (br_f nf_10 (ny_file1 hg (br_f nf_10 ⟨nf_v12 (by omega), br_f ?_ ⟨nf_v12 (by omega), br_f ?_ (ny_cc (by omega) (by omega) ?_)⟩⟩)))
  · rw [cf]
    exact zf
  · rw [cg]
    exact zg
  · refine ⟨nf_v12 (by omega), ?_⟩
    dsimp only
    rw [cf, pk_us]
    exact hp
theorem ny_ct {post : Int32 → SY → Prop} (hp : post (nf_cnt th 6) (th, sz, wd, nf_cp (fun _ => 0) yy 0 0 6)) : ∀ d i : Nat, i + d = 6 → wY_count_4 post (d + 1) (nf_cnt th i) (nI i) th sz wd (nf_cp (fun _ => 0) yy 0 0 i) := by
  intro d
  induction d with
  | zero =>
    intro i hi
    obtain rfl : i = 6 := by omega
    exact br_t nf_g6 hp
  | succ d ih =>
    intro i hi
    have k := ih (i + 1) (by omega)
    refine br_f (nf_l6 (by omega)) ⟨nf_v12 (by omega), ?_⟩
    rw [nf_c (f := i) (by omega)]
    have e : upd (nf_cp (fun _ => 0) yy 0 0 i) (nI i).toNatClampNeg (vp_nar .boolean 0) = nf_cp (fun _ => 0) yy 0 0 (i + 1) := by
      rw [nf_c (f := i) (by omega), nf_b0]
      exact nf_c1 (by omega) rfl
    by_cases z : th i = 0
    · rw [nf_cnt0 z] at k
      refine br_t z ?_
      exact ⟨nf_v6 (by omega), nm_r e (nm_r (nI_1 i) k)⟩
    · rw [nf_cnt1 z] at k
      refine br_f z ?_
      exact ⟨nf_v6 (by omega), nm_r e (nm_r (nI_1 i) k)⟩
theorem ny_count {post : Int32 → SY → Prop} (hp : post (nf_cnt th 6) (th, sz, wd, nf_cp (fun _ => 0) yy 0 0 6)) : wpY_count post (th, sz, wd, yy) := by
  have h := ny_ct hp 6 0 rfl
  rw [nI_0, nf_cz] at h
  exact ⟨_, h⟩
theorem ny_sl {post : Int32 → SY → Prop} (hB : ∀ i, i < 6 → nf_B (th i)) (hp : post (nf_cnt (nf_cp th th 0 6 6) 6) (nf_cp th th 0 6 6, nf_cp sz sz 0 6 6, nf_cp wd wd 0 24 24, nf_cp (fun _ => 0) yy 0 0 6)) : ∀ d i : Nat, i + d = 6 → wY_sync_2 post (d + 1) (nI i) (nf_cp th th 0 6 i) (nf_cp sz sz 0 6 i) (nf_cp wd wd 0 24 (4 * i)) yy := by
  intro d
  induction d with
  | zero =>
    intro i hi
    obtain rfl : i = 6 := by omega
    refine br_t nf_g6 ?_
    exact ny_count hp
  | succ d ih =>
    intro i hi
    have k := ih (i + 1) (by omega)
    refine br_f (nf_l6 (by omega)) ?_
    rw [nf_y6, nf_c (f := i) (by omega), nf_c (f := 6 + i) (by omega), nf_co (a := th) (j := i) (by omega), nf_bv (hB i (by omega)), nf_c1 (a := th) rfl (congrArg th (by omega))]
    refine ⟨nf_v12 (by omega), nf_v12 (by omega), nm_e (ny_cc (by omega) (by omega) ?_)⟩
    dsimp only
    rw [nf_co (a := sz) (j := i) (by omega), nf_c1 (a := sz) rfl (congrArg sz (by omega)), nf_cc (by omega) (by omega) (fun j hj => nf_co (by omega))]
    exact nm_r (nI_1 i) k
theorem ny_sync {post : Int32 → SY → Prop} (hB : ∀ i, i < 6 → nf_B (th i)) (hp : post (nf_cnt (nf_cp th th 0 6 6) 6) (nf_cp th th 0 6 6, nf_cp sz sz 0 6 6, nf_cp wd wd 0 24 24, nf_cp (fun _ => 0) yy 0 0 6)) : wpY_sync post (th, sz, wd, yy) := by
  have h := ny_sl hB hp 6 0 rfl
  rw [Nat.mul_zero, nf_cz, nf_cz, nf_cz, nI_0] at h
  exact ⟨_, h⟩
theorem ny_fsyncR {post : Int32 → SY → Prop} {x r : Int32} (h : nf_rf th x r) (hp : post r (th, sz, wd, yy)) : wpY_fsync post (th, sz, wd, yy) x := by
  unfold wpY_fsync
  dsimp only
  exact ny_testR h (br_f (nf_rfm h) hp)
theorem ny_fsync0 {post : Int32 → SY → Prop} {f : Nat} (hf : f < 6) (z : ¬ th f = 0) (y : yy f = 0) (hp : post 0 (upd th (6 + f) 1, upd sz (6 + f) (sz f), nf_cp wd wd (4 * f) (4 * (6 + f)) 4, yy)) : wpY_fsync post (th, sz, wd, yy) (nI f) := by
  unfold wpY_fsync
  dsimp only
  rw [nf_y6, nf_c (f := f) (by omega), nf_c (f := 6 + f) (by omega), nf_b1]
  exact ny_test1 hf z (br_t nf_00 ⟨nf_v6 hf, br_t y ⟨nf_v12 (by omega), nm_e (ny_cc (by omega) (by omega) hp)⟩⟩)
theorem ny_fsync1 {post : Int32 → SY → Prop} {f : Nat} (hf : f < 6) (z : ¬ th f = 0) (hB : ∀ i, i < 6 → nf_B (th i)) (y : ¬ yy f = 0) (hp : post 1 (nf_cp th th 0 6 6, nf_cp sz sz 0 6 6, nf_cp wd wd 0 24 24, nf_cp (fun _ => 0) yy 0 0 6)) : wpY_fsync post (th, sz, wd, yy) (nI f) := by
  unfold wpY_fsync
  dsimp only
  rw [nf_c (f := f) (by omega)]
  exact ny_test1 hf z (br_t nf_00 ⟨nf_v6 hf, br_f y (ny_sync hB hp)⟩)
theorem ny_cr {post : Int32 → SY → Prop} (hB : ∀ i, i < 12 → nf_B (th i)) (hp : post (nf_cnt (nf_cp th th 6 0 6) 6) (nf_cp th th 6 0 6, nf_cp sz sz 6 0 6, nf_cp wd wd 24 0 24, nf_cp (fun _ => 0) yy 0 0 6)) : ∀ d i : Nat, i + d = 6 → wY_crash_2 post (d + 1) (nI i) (nf_cp th th 6 0 i) (nf_cp sz sz 6 0 i) (nf_cp wd wd 24 0 (4 * i)) yy := by
  intro d
  induction d with
  | zero =>
    intro i hi
    obtain rfl : i = 6 := by omega
    refine br_t nf_g6 ?_
    exact ny_count hp
  | succ d ih =>
    intro i hi
    have k := ih (i + 1) (by omega)
    refine br_f (nf_l6 (by omega)) ?_
    rw [nf_y6, nf_c (f := i) (by omega), nf_c (f := 6 + i) (by omega), nf_co (a := th) (j := 6 + i) (by omega), nf_bv (hB (6 + i) (by omega)), nf_c1 (a := th) (by omega) rfl]
    refine ⟨nf_v12 (by omega), nf_v12 (by omega), nm_e (ny_cc (by omega) (by omega) ?_)⟩
    dsimp only
    rw [nf_co (a := sz) (j := 6 + i) (by omega), nf_c1 (a := sz) (by omega) rfl, nf_cc (by omega) (by omega) (fun j hj => nf_co (by omega))]
    exact nm_r (nI_1 i) k
theorem ny_crash {post : Int32 → SY → Prop} (hB : ∀ i, i < 12 → nf_B (th i)) (hp : post (nf_cnt (nf_cp th th 6 0 6) 6) (nf_cp th th 6 0 6, nf_cp sz sz 6 0 6, nf_cp wd wd 24 0 24, nf_cp (fun _ => 0) yy 0 0 6)) : wpY_crash post (th, sz, wd, yy) := by
  have h := ny_cr hB hp 6 0 rfl
  rw [Nat.mul_zero, nf_cz, nf_cz, nf_cz, nI_0] at h
  exact ⟨_, h⟩
theorem ny_existsR {post : Int32 → Prop} {x r : Int32} (h : nf_rf th x r) (hp : post 0) : wpY_exists post (th, sz, wd, yy) x := by
  unfold wpY_exists
  dsimp only
  rcases h with ⟨h, rfl⟩ | ⟨f, hf, rfl, z, rfl⟩
  · exact ny_file0 h (br_t rfl hp)
  · rw [nf_c (f := f) (by omega)]
    exact ny_file1 hf (br_f nf_10 ⟨nf_v12 (by omega), br_t z hp⟩)
theorem ny_exists1 {post : Int32 → Prop} {f : Nat} (hf : f < 6) (z : ¬ th f = 0) (hp : post 1) : wpY_exists post (th, sz, wd, yy) (nI f) := by
  unfold wpY_exists
  dsimp only
  rw [nf_c (f := f) (by omega)]
  exact ny_file1 hf (br_f nf_10 ⟨nf_v12 (by omega), br_f z hp⟩)
theorem ny_sizeR {post : Int32 → Prop} {x r : Int32} (h : nf_rf th x r) (hp : post r) : wpY_size post (th, sz, wd, yy) x := by
  unfold wpY_size
  dsimp only
  exact ny_testR h (br_f (nf_rfm h) hp)
theorem ny_size1 {post : Int32 → Prop} {f : Nat} (hf : f < 6) (z : ¬ th f = 0) (hp : post (sz f)) : wpY_size post (th, sz, wd, yy) (nI f) := by
  unfold wpY_size
  dsimp only
  rw [nf_c (f := f) (by omega)]
  exact ny_test1 hf z (br_t nf_00 ⟨nf_v12 (by omega), hp⟩)
theorem ny_readR {post : Int32 → Prop} {x i r : Int32} (h : nf_rf th x r) (hp : post 0) : wpY_read post (th, sz, wd, yy) x i := by
  unfold wpY_read
  dsimp only
  exact ny_existsR h (br_t rfl hp)
theorem ny_readN {post : Int32 → Prop} {i : Int32} {f : Nat} (hf : f < 6) (z : ¬ th f = 0) (hi : i < 0) (hp : post 0) : wpY_read post (th, sz, wd, yy) (nI f) i := by
  unfold wpY_read
  dsimp only
  exact ny_exists1 hf z (br_f nf_10 (br_t hi hp))
theorem ny_readB {post : Int32 → Prop} {f s i : Nat} (hf : f < 6) (z : ¬ th f = 0) (es : sz f = nI s) (hi : i < 2 ^ 31) (hb : s ≤ i) (hp : post 0) : wpY_read post (th, sz, wd, yy) (nI f) (nI i) := by
  unfold wpY_read
  dsimp only
  rw [nf_c (f := f) (by omega), es]
  exact ny_exists1 hf z (br_f nf_10 (br_f (nI_pos hi) ⟨nf_v12 (by omega), br_t (nI_le hb hi) hp⟩))
theorem ny_read1 {post : Int32 → Prop} {f s i : Nat} (hf : f < 6) (z : ¬ th f = 0) (es : sz f = nI s) (hs : s ≤ 4) (hi : i < s) (hp : post (wd (4 * f + i))) : wpY_read post (th, sz, wd, yy) (nI f) (nI i) := by
  unfold wpY_read
  dsimp only
  rw [nf_c (f := f) (by omega), nf_ya, nf_c (f := 4 * f + i) (by omega), es]
  exact ny_exists1 hf z (br_f nf_10 (br_f (nI_pos (by omega)) ⟨nf_v12 (by omega), br_f (nI_ge hi (by omega)) ⟨nf_v48 (by omega), hp⟩⟩))
theorem ny_d0 {post : Int32 → Prop} {J : Int32 → Int32 → Prop} {B : Int32} {f : Nat} (hf : f < 6) (z : th f = 0) (hp : J B (nI (f + 1))) : ∀ d i : Nat, i + d = 4 → wY_digest_44 post J (nI f) th sz wd yy (d + 1) B (nI i) := by
  intro d
  induction d with
  | zero =>
    intro i hi
    obtain rfl : i = 4 := by omega
    exact br_t nf_g4 (nm_r (nI_1 f) hp)
  | succ d ih =>
    intro i hi
    refine br_f (nf_l4 (by omega)) (ny_readR (r := -3) (Or.inr ⟨f, hf, rfl, z, rfl⟩) ?_)
    refine nm_r (e' := B) ?_ (nm_r (nI_1 i) (ih (i + 1) (by omega)))
    rw [Int32.mul_zero, Int32.add_zero]
theorem ny_d1 {post : Int32 → Prop} {J : Int32 → Int32 → Prop} {B : Int32} {f s : Nat} (hf : f < 6) (z : ¬ th f = 0) (es : sz f = nI s) (hs : s ≤ 4) (hp : J (B + nf_qw wd f s 4) (nI (f + 1))) : ∀ d i : Nat, i + d = 4 → wY_digest_44 post J (nI f) th sz wd yy (d + 1) (B + nf_qw wd f s i) (nI i) := by
  intro d
  induction d with
  | zero =>
    intro i hi
    obtain rfl : i = 4 := by omega
    exact br_t nf_g4 (nm_r (nI_1 f) hp)
  | succ d ih =>
    intro i hi
    have k := ih (i + 1) (by omega)
    refine br_f (nf_l4 (by omega)) ?_
    by_cases h : i < s
    · refine ny_read1 hf z es hs h ?_
      refine nm_r (e' := B + nf_qw wd f s (i + 1)) ?_ (nm_r (nI_1 i) k)
      rw [Int32.add_assoc]
      show _ = B + (nf_qw wd f s i + (8 * nI f + nI i + 1) * (if i < s then wd (4 * f + i) else 0))
      rw [if_pos h]
    · refine ny_readB hf z es (by omega) (by omega) ?_
      refine nm_r (e' := B + nf_qw wd f s (i + 1)) ?_ (nm_r (nI_1 i) k)
      rw [Int32.add_assoc]
      show _ = B + (nf_qw wd f s i + (8 * nI f + nI i + 1) * (if i < s then wd (4 * f + i) else 0))
      rw [if_neg h]
theorem ny_dl {post : Int32 → Prop} (hS : ∀ i, i < 6 → nf_S (sz i)) (hp : post (nf_dg th sz wd 6)) : ∀ d i : Nat, i + d = 6 → wY_digest_4 post th sz wd yy (d + 1) (nf_dg th sz wd i) (nI i) := by
  intro d
  induction d with
  | zero =>
    intro i hi
    obtain rfl : i = 6 := by omega
    exact br_t nf_g6 hp
  | succ d ih =>
    intro i hi
    have k := ih (i + 1) (by omega)
    refine br_f (nf_l6 (by omega)) ⟨nf_v12 (by omega), ?_⟩
    rw [nf_c (f := i) (by omega)]
    by_cases z : th i = 0
    · rw [nf_dg0 z] at k
      have h := ny_d0 (post := post) (sz := sz) (wd := wd) (yy := yy) (by omega) z k 4 0 rfl
      rw [nI_0] at h
      exact br_t z ⟨_, h⟩
    · obtain ⟨s, hs, es⟩ := hS i (by omega)
      have ec : (sz i).toNatClampNeg = s := by
        rw [es]
        exact nf_c (by omega)
      rw [nf_dg1 z, ec, ← nf_qw4 hs, ← Int32.add_assoc] at k
      have h := ny_d1 (post := post) (yy := yy) (by omega) z es hs k 4 0 rfl
      rw [nI_0, show nf_qw wd i s 0 = 0 from rfl, Int32.add_zero] at h
      exact br_f z ⟨nf_v12 (by omega), nm_e ⟨_, h⟩⟩
theorem ny_digest {post : Int32 → Prop} (hS : ∀ i, i < 6 → nf_S (sz i)) (hp : post (nf_dg th sz wd 6)) : wpY_digest post (th, sz, wd, yy) := by
  have h := ny_dl (yy := yy) hS hp 6 0 rfl
  rw [nI_0] at h
  exact ⟨_, h⟩
end
