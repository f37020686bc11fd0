section
theorem pk_us {f : Nat → Int32} {k : Nat} {x : Int32} : upd f k x k = x := if_pos rfl
theorem pk_un {f : Nat → Int32} {k j : Nat} {x : Int32} (h : j ≠ k) : upd f k x j = f j := if_neg h
theorem pk_mul (a b : Nat) : nI a * nI b = nI (a * b) := (Int32.ofNat_mul a b).symm
theorem pk_ix (x : Int32) {n : Nat} (hn : n < 2 ^ 31) : x < 0 ∨ nI n ≤ x ∨ ∃ j : Nat, j < n ∧ x = nI j := by
  by_cases h : x < 0
  · exact Or.inl h
  · obtain ⟨j, hj, rfl⟩ := nI_of h
    by_cases h2 : j < n
    · exact Or.inr (Or.inr ⟨j, h2, rfl⟩)
    · exact Or.inr (Or.inl (nI_le (by omega) hj))
theorem pk_le {x y : Int32} {A B : Prop} (a b : Nat) (f : a ≤ b → A) (g : b < a → B) (hx : x = nI a := by rfl) (hy : y = nI b := by rfl) (ha : a < 2 ^ 31 := by omega) (hb : b < 2 ^ 31 := by omega) : (x ≤ y → A) ∧ (¬ x ≤ y → B) := by
  subst hx hy
  rw [nI_leI ha hb]
  exact ⟨f, fun z => g (by omega)⟩
theorem pk_lt {x y : Int32} {A B : Prop} (a b : Nat) (f : a < b → A) (g : b ≤ a → B) (hx : x = nI a := by rfl) (hy : y = nI b := by rfl) (ha : a < 2 ^ 31 := by omega) (hb : b < 2 ^ 31 := by omega) : (x < y → A) ∧ (¬ x < y → B) := by
  subst hx hy
  rw [nI_ltI ha hb]
  exact ⟨f, fun z => g (by omega)⟩
theorem pk_eq {x y : Int32} {A B : Prop} (a b : Nat) (f : a = b → A) (g : a ≠ b → B) (hx : x = nI a := by rfl) (hy : y = nI b := by rfl) (ha : a < 2 ^ 31 := by omega) (hb : b < 2 ^ 31 := by omega) : (x = y → A) ∧ (¬ x = y → B) := by
  subst hx hy
  rw [nI_eq ha hb]
  exact ⟨f, g⟩
theorem pk_in {x : Int32} (n N : Nat) (h : n < N) (hx : x = nI n := by rfl) (hN : N < 2 ^ 31 := by omega) : vp_in x N := by
  subst hx
  exact vp_in_nI h hN
theorem pk_cl {x : Int32} (n : Nat) (hx : x = nI n := by rfl) (h : n < 2 ^ 31 := by omega) : x.toNatClampNeg = n := by
  subst hx
  exact nI_clamp h
theorem nf_b0 : vp_nar .boolean 0 = 0 := by decide
theorem nf_b1 : vp_nar .boolean 1 = 1 := by decide
def nf_B (z : Int32) : Prop := z = 0 ∨ z = 1
def nf_S (z : Int32) : Prop := ∃ s : Nat, s ≤ 4 ∧ z = nI s
theorem nf_B0 : nf_B 0 := Or.inl rfl
theorem nf_B1 : nf_B 1 := Or.inr rfl
theorem nf_bv {z : Int32} (h : nf_B z) : vp_nar .boolean z = z := by
  rcases h with rfl | rfl
  · exact nf_b0
  · exact nf_b1
theorem nf_nb {z : Int32} (h : nf_B z) : narrow .boolean (.int z) = .int z := by
  rcases h with rfl | rfl <;> rfl
theorem nf_fb {z : Int32} (h : nf_B z) : fits .boolean (.int z) = true := by
  rcases h with rfl | rfl <;> rfl
theorem nf_4 : (4 : Int32) = nI 4 := by decide +kernel
theorem nf_6 : (6 : Int32) = nI 6 := by decide +kernel
theorem nf_5 : (5 : Int32) = nI 5 := by decide +kernel
theorem nf_24 : (24 : Int32) = nI 24 := by decide +kernel
theorem nf_xa (f i : Nat) : nI f * 4 + nI i = nI (4 * f + i) := by
  rw [nf_4, pk_mul, nI_add]
  exact congrArg nI (by omega)
theorem nf_ya (f i : Nat) : 4 * nI f + nI i = nI (4 * f + i) := by
  rw [nf_4, pk_mul, nI_add]
theorem nf_yb (f i : Nat) : 24 + 4 * nI f + nI i = nI (24 + (4 * f + i)) := by
  rw [nf_4, nf_24, pk_mul, nI_add, nI_add]
  exact congrArg nI (by omega)
theorem nf_y6 (f : Nat) : 6 + nI f = nI (6 + f) := by
  rw [nf_6, nI_add]
/-- a store at one place keeps a pointwise equation -/
theorem nf_uc {a b : Nat → Int32} {k i : Nat} {x y : Int32} (h : a i = b i) (e : x = y) : upd a k x i = upd b k y i := by
  show (if i = k then x else a i) = (if i = k then y else b i)
  rw [h, e]
theorem nf_uP {P : Int32 → Prop} {a : Nat → Int32} {k n : Nat} {x : Int32} (h : ∀ i, i < n → P (a i)) (hx : P x) : ∀ i, i < n → P (upd a k x i) := by
  intro i hi
  by_cases e : i = k
  · subst e
    rw [pk_us]
    exact hx
  · rw [pk_un e]
    exact h i hi
/-- b with n places from q on taken from a, from p on -/
def nf_cp (a b : Nat → Int32) (p q n : Nat) : Nat → Int32 := fun j => if q ≤ j ∧ j < q + n then a (p + (j - q)) else b j
theorem nf_ci {a b : Nat → Int32} {p q n j : Nat} (h1 : q ≤ j) (h2 : j < q + n) : nf_cp a b p q n j = a (p + (j - q)) := if_pos ⟨h1, h2⟩
theorem nf_co {a b : Nat → Int32} {p q n j : Nat} (h : j < q ∨ q + n ≤ j) : nf_cp a b p q n j = b j := if_neg (by omega)
theorem nf_cz {a b : Nat → Int32} {p q : Nat} : nf_cp a b p q 0 = b := by
  funext j
  exact nf_co (by omega)
theorem nf_c1 {a b : Nat → Int32} {p q n k : Nat} {x : Int32} (hk : k = q + n) (hx : x = a (p + n)) : upd (nf_cp a b p q n) k x = nf_cp a b p q (n + 1) := by
  subst hk
  funext j
  by_cases e : j = q + n
  · subst e
    rw [pk_us, nf_ci (by omega) (by omega), hx]
    exact congrArg a (by omega)
  · rw [pk_un e]
    by_cases h : q ≤ j ∧ j < q + n
    · rw [nf_ci h.1 h.2, nf_ci h.1 (by omega)]
    · rw [nf_co (by omega), nf_co (by omega)]
theorem nf_cc {a a' b : Nat → Int32} {p q p' q' n m : Nat} (hp : p' = p + n) (hq : q' = q + n) (ha : ∀ i, i < m → a' (p + n + i) = a (p + n + i)) : nf_cp a' (nf_cp a b p q n) p' q' m = nf_cp a b p q (n + m) := by
  subst hp hq
  funext j
  by_cases h : q + n ≤ j ∧ j < q + n + m
  · rw [nf_ci h.1 h.2, nf_ci (by omega) (by omega), ha (j - (q + n)) (by omega)]
    exact congrArg a (by omega)
  · rw [nf_co (by omega)]
    by_cases h2 : q ≤ j ∧ j < q + n
    · rw [nf_ci h2.1 h2.2, nf_ci (by omega) (by omega)]
    · rw [nf_co (by omega), nf_co (by omega)]
theorem nf_cP {P : Int32 → Prop} {a b : Nat → Int32} {p q k n : Nat} (h : ∀ i, i < n → P (b i)) (ha : ∀ i, i < k → P (a (p + i))) : ∀ i, i < n → P (nf_cp a b p q k i) := by
  intro i hi
  by_cases e : q ≤ i ∧ i < q + k
  · rw [nf_ci e.1 e.2]
    exact ha _ (by omega)
  · rw [nf_co (by omega)]
    exact h i hi
/-- how many of the first n cells are not 0 -/
def nf_cnt (a : Nat → Int32) : Nat → Int32
  | 0 => 0
  | n + 1 => if a n = 0 then nf_cnt a n else nf_cnt a n + 1
theorem nf_cntC {a b : Nat → Int32} : ∀ n : Nat, (∀ i, i < n → a i = b i) → nf_cnt a n = nf_cnt b n := by
  intro n
  induction n with
  | zero => intro _; rfl
  | succ n ih =>
    intro h
    show (if a n = 0 then nf_cnt a n else nf_cnt a n + 1) = (if b n = 0 then nf_cnt b n else nf_cnt b n + 1)
    rw [ih (fun i hi => h i (by omega)), h n (by omega)]
theorem nf_cnt0 {a : Nat → Int32} {n : Nat} (h : a n = 0) : nf_cnt a (n + 1) = nf_cnt a n := if_pos h
theorem nf_cnt1 {a : Nat → Int32} {n : Nat} (h : ¬ a n = 0) : nf_cnt a (n + 1) = nf_cnt a n + 1 := if_neg h
/-- the words' part of the digest of file f, its first n words -/
def nf_pw (w : Nat → Int32) (f : Nat) : Nat → Int32
  | 0 => 0
  | i + 1 => nf_pw w f i + (8 * nI f + nI i + 1) * w (4 * f + i)
/-- the digest of the first n files -/
def nf_dg (th sz w : Nat → Int32) : Nat → Int32
  | 0 => 0
  | f + 1 => if th f = 0 then nf_dg th sz w f else nf_dg th sz w f + (1000 * (nI f + 1) * (sz f + 1) + nf_pw w f (sz f).toNatClampNeg)
theorem nf_dg0 {th sz w : Nat → Int32} {f : Nat} (h : th f = 0) : nf_dg th sz w (f + 1) = nf_dg th sz w f := if_pos h
theorem nf_dg1 {th sz w : Nat → Int32} {f : Nat} (h : ¬ th f = 0) : nf_dg th sz w (f + 1) = nf_dg th sz w f + (1000 * (nI f + 1) * (sz f + 1) + nf_pw w f (sz f).toNatClampNeg) := if_neg h
theorem nf_pwC {w w' : Nat → Int32} {f : Nat} : ∀ n : Nat, (∀ i, i < n → w (4 * f + i) = w' (4 * f + i)) → nf_pw w f n = nf_pw w' f n := by
  intro n
  induction n with
  | zero => intro _; rfl
  | succ n ih =>
    intro h
    show nf_pw w f n + (8 * nI f + nI n + 1) * w (4 * f + n) = nf_pw w' f n + (8 * nI f + nI n + 1) * w' (4 * f + n)
    rw [ih (fun i hi => h i (by omega)), h n (by omega)]
theorem nf_dgC {th sz w th' sz' w' : Nat → Int32} : ∀ n : Nat, n ≤ 6 → (∀ i, i < 6 → th i = th' i) → (∀ i, i < 6 → sz i = sz' i) → (∀ j, j < 24 → w j = w' j) → (∀ i, i < 6 → nf_S (sz' i)) → nf_dg th sz w n = nf_dg th' sz' w' n := by
  intro n
  induction n with
  | zero => intro _ _ _ _ _; rfl
  | succ n ih =>
    intro hn h1 h2 h3 h4
    have e := ih (by omega) h1 h2 h3 h4
    obtain ⟨s, hs, es⟩ := h4 n (by omega)
    have ec : (sz' n).toNatClampNeg = s := by
      rw [es]
      exact nI_clamp (by omega)
    by_cases z : th n = 0
    · rw [nf_dg0 z, nf_dg0 ((h1 n (by omega)).symm.trans z), e]
    · rw [nf_dg1 z, nf_dg1 (fun q => z ((h1 n (by omega)).trans q)), e, h2 n (by omega), ec, nf_pwC s (fun i hi => h3 (4 * n + i) (by omega))]
/-- the words' part as the reference sums it: a 0 past the size -/
def nf_qw (w : Nat → Int32) (f s : Nat) : Nat → Int32
  | 0 => 0
  | i + 1 => nf_qw w f s i + (8 * nI f + nI i + 1) * (if i < s then w (4 * f + i) else 0)
theorem nf_qwL {w : Nat → Int32} {f s : Nat} : ∀ n : Nat, n ≤ s → nf_qw w f s n = nf_pw w f n := by
  intro n
  induction n with
  | zero => intro _; rfl
  | succ n ih =>
    intro h
    show nf_qw w f s n + (8 * nI f + nI n + 1) * (if n < s then w (4 * f + n) else 0) = nf_pw w f n + (8 * nI f + nI n + 1) * w (4 * f + n)
    rw [ih (by omega), if_pos (show n < s by omega)]
theorem nf_qwR {w : Nat → Int32} {f s : Nat} : ∀ d : Nat, nf_qw w f s (s + d) = nf_pw w f s := by
  intro d
  induction d with
  | zero => exact nf_qwL s (Nat.le_refl s)
  | succ d ih =>
    show nf_qw w f s (s + d) + (8 * nI f + nI (s + d) + 1) * (if s + d < s then w (4 * f + (s + d)) else 0) = nf_pw w f s
    rw [ih, if_neg (show ¬ s + d < s by omega), Int32.mul_zero, Int32.add_zero]
theorem nf_qw4 {w : Nat → Int32} {f s : Nat} (h : s ≤ 4) : nf_qw w f s 4 = nf_pw w f s := by
  have e := nf_qwR (w := w) (f := f) (s := s) (4 - s)
  rw [show s + (4 - s) = 4 by omega] at e
  exact e
theorem nf_c {f : Nat} (h : f < 64) : (nI f).toNatClampNeg = f := nI_clamp (by omega)
theorem nf_v6 {f : Nat} (h : f < 6) : vp_in (nI f) 6 := vp_in_nI h (by omega)
theorem nf_v12 {f : Nat} (h : f < 12) : vp_in (nI f) 12 := vp_in_nI h (by omega)
theorem nf_v24 {f : Nat} (h : f < 24) : vp_in (nI f) 24 := vp_in_nI h (by omega)
theorem nf_v48 {f : Nat} (h : f < 48) : vp_in (nI f) 48 := vp_in_nI h (by omega)
theorem nf_10 : ¬ (1 : Int32) = 0 := by decide
theorem nf_g4 : (4 : Int32) ≤ nI 4 := by decide +kernel
theorem nf_g6 : (6 : Int32) ≤ nI 6 := by decide +kernel
theorem nf_l4 {i : Nat} (h : i < 4) : ¬ (4 : Int32) ≤ nI i := by
  rw [nf_4]
  exact nI_ge h (by omega)
theorem nf_l6 {i : Nat} (h : i < 6) : ¬ (6 : Int32) ≤ nI i := by
  rw [nf_6]
  exact nI_ge h (by omega)
theorem nf_us {a : Nat → Int32} {k : Nat} : upd a k (a k) = a := by
  funext j
  by_cases e : j = k
  · subst e
    rw [pk_us]
  · rw [pk_un e]
/-- what refuses a call of one file: a bad number, or a file that is not there -/
def nf_rf (a : Nat → Int32) (x r : Int32) : Prop := ((x < 0 ∨ nI 6 ≤ x) ∧ r = -1) ∨ (∃ f, f < 6 ∧ x = nI f ∧ a f = 0 ∧ r = -3)
theorem nf_rfn {a : Nat → Int32} {x r : Int32} (h : nf_rf a x r) : ¬ r = 0 := by
  rcases h with ⟨_, rfl⟩ | ⟨f, _, _, _, rfl⟩ <;> decide
theorem nf_rfm {a : Nat → Int32} {x r : Int32} (h : nf_rf a x r) : ¬ 0 ≤ r := by
  rcases h with ⟨_, rfl⟩ | ⟨f, _, _, _, rfl⟩ <;> decide
theorem nf_rfC {a b : Nat → Int32} {x r : Int32} (h : nf_rf a x r) (e : ∀ i, i < 6 → a i = b i) : nf_rf b x r := by
  rcases h with h | ⟨f, hf, ex, z, er⟩
  · exact Or.inl h
  · exact Or.inr ⟨f, hf, ex, (e f hf).symm.trans z, er⟩
theorem nf_rfD (a : Nat → Int32) (x : Int32) : (∃ r, nf_rf a x r) ∨ ∃ f, f < 6 ∧ x = nI f ∧ ¬ a f = 0 := by
  rcases pk_ix x (n := 6) (by decide) with h | h | ⟨f, hf, ex⟩
  · exact Or.inl ⟨-1, Or.inl ⟨Or.inl h, rfl⟩⟩
  · exact Or.inl ⟨-1, Or.inl ⟨Or.inr h, rfl⟩⟩
  · by_cases z : a f = 0
    · exact Or.inl ⟨-3, Or.inr ⟨f, hf, ex, z, rfl⟩⟩
    · exact Or.inr ⟨f, hf, ex, z⟩
end
section
/-- X's seven arrays and the reference's four: the same, place by place; young only where the file exists now -/
def nf_R (eN sN wN eL sL wL yx th sz wd yy : Nat → Int32) : Prop :=
  (∀ i, i < 6 → eN i = th i) ∧ (∀ i, i < 6 → eL i = th (6 + i)) ∧ (∀ i, i < 6 → sN i = sz i) ∧ (∀ i, i < 6 → sL i = sz (6 + i)) ∧
  (∀ j, j < 24 → wN j = wd j) ∧ (∀ j, j < 24 → wL j = wd (24 + j)) ∧ (∀ i, i < 12 → nf_B (th i)) ∧ (∀ i, i < 12 → nf_S (sz i)) ∧
  (∀ i, i < 6 → ¬ th i = 0 → yx i = yy i)
section
variable {eN sN wN eL sL wL yx th sz wd yy : Nat → Int32}
theorem nf_S0 : nf_S 0 := ⟨0, by omega, rfl⟩
theorem nf_Rinit : nf_R (fun _ => 0) (fun _ => 0) (fun _ => 0) (fun _ => 0) (fun _ => 0) (fun _ => 0) (fun _ => 0) (fun _ => 0) (fun _ => 0) (fun _ => 0) (fun _ => 0) :=
  ⟨fun _ _ => rfl, fun _ _ => rfl, fun _ _ => rfl, fun _ _ => rfl, fun _ _ => rfl, fun _ _ => rfl, fun _ _ => nf_B0, fun _ _ => nf_S0, fun _ _ _ => rfl⟩
theorem nf_Rcreate (h : nf_R eN sN wN eL sL wL yx th sz wd yy) {f : Nat} (hf : f < 6) : nf_R (upd eN f 1) (upd sN f 0) wN eL sL wL (upd yx f 1) (upd th f 1) (upd sz f 0) wd (upd yy f 1) := by
  obtain ⟨h1, h2, h3, h4, h5, h6, h7, h8, h9⟩ := h
  refine ⟨fun i hi => nf_uc (h1 i hi) rfl, fun i hi => (h2 i hi).trans (pk_un (by omega)).symm, fun i hi => nf_uc (h3 i hi) rfl, fun i hi => (h4 i hi).trans (pk_un (by omega)).symm, h5, h6, nf_uP h7 nf_B1, nf_uP h8 nf_S0, fun i hi hn => ?_⟩
  by_cases e : i = f
  · subst e
    rw [pk_us, pk_us]
  · rw [pk_un e] at hn
    rw [pk_un e, pk_un e]
    exact h9 i hi hn
theorem nf_Rremove (h : nf_R eN sN wN eL sL wL yx th sz wd yy) {f : Nat} (hf : f < 6) : nf_R (upd eN f 0) sN wN eL sL wL yx (upd th f 0) sz wd (upd yy f 0) := by
  obtain ⟨h1, h2, h3, h4, h5, h6, h7, h8, h9⟩ := h
  refine ⟨fun i hi => nf_uc (h1 i hi) rfl, fun i hi => (h2 i hi).trans (pk_un (by omega)).symm, h3, h4, h5, h6, nf_uP h7 nf_B0, h8, fun i hi hn => ?_⟩
  by_cases e : i = f
  · subst e
    rw [pk_us] at hn
    exact absurd rfl hn
  · rw [pk_un e] at hn
    rw [pk_un e]
    exact h9 i hi hn
/-- a new size of a file that is there now -/
theorem nf_Rsize (h : nf_R eN sN wN eL sL wL yx th sz wd yy) {f n : Nat} (hf : f < 6) (hn : n ≤ 4) : nf_R eN (upd sN f (nI n)) wN eL sL wL yx th (upd sz f (nI n)) wd yy := by
  obtain ⟨h1, h2, h3, h4, h5, h6, h7, h8, h9⟩ := h
  exact ⟨h1, h2, fun i hi => nf_uc (h3 i hi) rfl, fun i hi => (h4 i hi).trans (pk_un (by omega)).symm, h5, h6, h7, nf_uP h8 ⟨n, hn, rfl⟩, h9⟩
/-- a word -/
theorem nf_Rword (h : nf_R eN sN wN eL sL wL yx th sz wd yy) {j : Nat} (hj : j < 24) (x : Int32) : nf_R eN sN (upd wN j x) eL sL wL yx th sz (upd wd j x) yy := by
  obtain ⟨h1, h2, h3, h4, h5, h6, h7, h8, h9⟩ := h
  exact ⟨h1, h2, h3, h4, fun i hi => nf_uc (h5 i hi) rfl, fun i hi => (h6 i hi).trans (pk_un (by omega)).symm, h7, h8, h9⟩
theorem nf_Rcopy (h : nf_R eN sN wN eL sL wL yx th sz wd yy) {f g : Nat} (hf : f < 6) (hg : g < 6) : nf_R eN (upd sN f (sN g)) (nf_cp wN wN (4 * g) (4 * f) 4) eL sL wL yx th (upd sz f (sz g)) (nf_cp wd wd (4 * g) (4 * f) 4) yy := by
  obtain ⟨h1, h2, h3, h4, h5, h6, h7, h8, h9⟩ := h
  refine ⟨h1, h2, fun i hi => nf_uc (h3 i hi) (h3 g hg), fun i hi => (h4 i hi).trans (pk_un (by omega)).symm, fun j hj => ?_, fun j hj => (h6 j hj).trans (nf_co (by omega)).symm, h7, nf_uP h8 (h8 g (by omega)), h9⟩
  by_cases e : 4 * f ≤ j ∧ j < 4 * f + 4
  · rw [nf_ci e.1 e.2, nf_ci e.1 e.2]
    exact h5 _ (by omega)
  · rw [nf_co (by omega), nf_co (by omega)]
    exact h5 j hj
theorem nf_Rlast (h : nf_R eN sN wN eL sL wL yx th sz wd yy) {f : Nat} (hf : f < 6) {x : Int32} (hx : x = eN f) : nf_R eN sN wN (upd eL f x) (upd sL f (sN f)) (nf_cp wN wL (4 * f) (4 * f) 4) yx (upd th (6 + f) x) (upd sz (6 + f) (sz f)) (nf_cp wd wd (4 * f) (4 * (6 + f)) 4) yy := by
  obtain ⟨h1, h2, h3, h4, h5, h6, h7, h8, h9⟩ := h
  refine ⟨fun i hi => (h1 i hi).trans (pk_un (by omega)).symm, fun i hi => ?_, fun i hi => (h3 i hi).trans (pk_un (by omega)).symm, fun i hi => ?_, fun j hj => (h5 j hj).trans (nf_co (by omega)).symm, fun j hj => ?_, nf_uP h7 ?_, nf_uP h8 (h8 f (by omega)), fun i hi hn => ?_⟩
  · by_cases e : i = f
    · subst e
      rw [pk_us, pk_us]
    · rw [pk_un e, pk_un (by omega)]
      exact h2 i hi
  · by_cases e : i = f
    · subst e
      rw [pk_us, pk_us]
      exact h3 i hi
    · rw [pk_un e, pk_un (by omega)]
      exact h4 i hi
  · by_cases e : 4 * f ≤ j ∧ j < 4 * f + 4
    · rw [nf_ci e.1 e.2, nf_ci (by omega) (by omega), show 4 * f + (24 + j - 4 * (6 + f)) = 4 * f + (j - 4 * f) by omega]
      exact h5 _ (by omega)
    · rw [nf_co (by omega), nf_co (by omega)]
      exact h6 j hj
  · rw [hx, h1 f hf]
    exact h7 f (by omega)
  · rw [pk_un (by omega)] at hn
    exact h9 i hi hn
/-- a checkpoint -/
theorem nf_Rsync (h : nf_R eN sN wN eL sL wL yx th sz wd yy) : nf_R eN sN wN (nf_cp eN eL 0 0 6) (nf_cp sN sL 0 0 6) (nf_cp wN wL 0 0 24) (nf_cp (fun _ => 0) yx 0 0 6) (nf_cp th th 0 6 6) (nf_cp sz sz 0 6 6) (nf_cp wd wd 0 24 24) (nf_cp (fun _ => 0) yy 0 0 6) := by
  obtain ⟨h1, h2, h3, h4, h5, h6, h7, h8, h9⟩ := h
  refine ⟨fun i hi => (h1 i hi).trans (nf_co (by omega)).symm, fun i hi => ?_, fun i hi => (h3 i hi).trans (nf_co (by omega)).symm, fun i hi => ?_, fun j hj => (h5 j hj).trans (nf_co (by omega)).symm, fun j hj => ?_, nf_cP h7 (fun i hi => h7 _ (by omega)), nf_cP h8 (fun i hi => h8 _ (by omega)), fun i hi _ => ?_⟩
  · rw [nf_ci (by omega) (by omega), nf_ci (by omega) (by omega), show 0 + (6 + i - 6) = 0 + (i - 0) by omega]
    exact h1 _ (by omega)
  · rw [nf_ci (by omega) (by omega), nf_ci (by omega) (by omega), show 0 + (6 + i - 6) = 0 + (i - 0) by omega]
    exact h3 _ (by omega)
  · rw [nf_ci (by omega) (by omega), nf_ci (by omega) (by omega), show 0 + (24 + j - 24) = 0 + (j - 0) by omega]
    exact h5 _ (by omega)
  · rw [nf_ci (by omega) (by omega), nf_ci (by omega) (by omega)]
/-- the power fails -/
theorem nf_Rcrash (h : nf_R eN sN wN eL sL wL yx th sz wd yy) : nf_R (nf_cp eL eN 0 0 6) (nf_cp sL sN 0 0 6) (nf_cp wL wN 0 0 24) eL sL wL (nf_cp (fun _ => 0) yx 0 0 6) (nf_cp th th 6 0 6) (nf_cp sz sz 6 0 6) (nf_cp wd wd 24 0 24) (nf_cp (fun _ => 0) yy 0 0 6) := by
  obtain ⟨h1, h2, h3, h4, h5, h6, h7, h8, h9⟩ := h
  refine ⟨fun i hi => ?_, fun i hi => (h2 i hi).trans (nf_co (by omega)).symm, fun i hi => ?_, fun i hi => (h4 i hi).trans (nf_co (by omega)).symm, fun j hj => ?_, fun j hj => (h6 j hj).trans (nf_co (by omega)).symm, nf_cP h7 (fun i hi => h7 _ (by omega)), nf_cP h8 (fun i hi => h8 _ (by omega)), fun i hi _ => ?_⟩
  · rw [nf_ci (by omega) (by omega), nf_ci (by omega) (by omega), show 0 + (i - 0) = i by omega]
    exact h2 _ (by omega)
  · rw [nf_ci (by omega) (by omega), nf_ci (by omega) (by omega), show 0 + (i - 0) = i by omega]
    exact h4 _ (by omega)
  · rw [nf_ci (by omega) (by omega), nf_ci (by omega) (by omega), show 0 + (j - 0) = j by omega]
    exact h6 _ (by omega)
  · rw [nf_ci (by omega) (by omega), nf_ci (by omega) (by omega)]
end
end
section
section
variable {eN sN wN eL sL wL yx : Nat → Int32}
theorem nx_file0 {post : Int32 → Prop} {x : Int32} (h : x < 0 ∨ nI 6 ≤ x) (hp : post 0) : wpX_isFileNumber post x := by
  by_cases z : x < 0
  · exact br_t z hp
  · rcases h with h | h
    · exact absurd h z
    · rw [← nf_6] at h
      exact br_f z (br_t h hp)
theorem nx_file1 {post : Int32 → Prop} {f : Nat} (hf : f < 6) (hp : post 1) : wpX_isFileNumber post (nI f) :=
  br_f (nI_pos (by omega)) (br_f (nf_l6 hf) hp)
theorem nx_refR {post : Int32 → Prop} {x r : Int32} (h : nf_rf eN x r) (hp : post r) : wpX_refusalOf post (eN, sN, wN, eL, sL, wL, yx) x := by
  unfold wpX_refusalOf
  dsimp only
  rcases h with ⟨h, rfl⟩ | ⟨f, hf, rfl, z, rfl⟩
  · exact nx_file0 h (br_t rfl hp)
  · rw [nf_c (f := f) (by omega)]
    exact nx_file1 hf (br_f nf_10 ⟨nf_v6 hf, br_t z hp⟩)
theorem nx_ref1 {post : Int32 → Prop} {f : Nat} (hf : f < 6) (z : ¬ eN f = 0) (hp : post 0) : wpX_refusalOf post (eN, sN, wN, eL, sL, wL, yx) (nI f) := by
  unfold wpX_refusalOf
  dsimp only
  rw [nf_c (f := f) (by omega)]
  exact nx_file1 hf (br_f nf_10 ⟨nf_v6 hf, br_f z hp⟩)
theorem nx_create0 {post : Int32 → SX → Prop} {x : Int32} (h : x < 0 ∨ nI 6 ≤ x) (hp : post (-1) (eN, sN, wN, eL, sL, wL, yx)) : wpX_create post (eN, sN, wN, eL, sL, wL, yx) x := by
  unfold wpX_create
  dsimp only
  exact nx_file0 h (br_t rfl hp)
theorem nx_create3 {post : Int32 → SX → Prop} {f : Nat} (hf : f < 6) (z : ¬ eN f = 0) (hp : post (-3) (eN, sN, wN, eL, sL, wL, yx)) : wpX_create post (eN, sN, wN, eL, sL, wL, yx) (nI f) := by
  unfold wpX_create
  dsimp only
  rw [nf_c (f := f) (by omega)]
  exact nx_file1 hf (br_f nf_10 ⟨nf_v6 hf, br_f z hp⟩)
theorem nx_create1 {post : Int32 → SX → Prop} {f : Nat} (hf : f < 6) (z : eN f = 0) (hp : post 0 (upd eN f 1, upd sN f 0, wN, eL, sL, wL, upd yx f 1)) : wpX_create post (eN, sN, wN, eL, sL, wL, yx) (nI f) := by
  unfold wpX_create
  dsimp only
  rw [nf_c (f := f) (by omega), nf_b1]
  exact nx_file1 hf (br_f nf_10 ⟨nf_v6 hf, br_t z ⟨nf_v6 hf, nm_e ⟨nf_v6 hf, nm_e ⟨nf_v6 hf, nm_e hp⟩⟩⟩⟩)
theorem nx_removeR {post : Int32 → SX → Prop} {x r : Int32} (h : nf_rf eN x r) (hp : post r (eN, sN, wN, eL, sL, wL, yx)) : wpX_remove post (eN, sN, wN, eL, sL, wL, yx) x := by
  unfold wpX_remove
  dsimp only
  exact nx_refR h (br_f (nf_rfn h) hp)
theorem nx_remove1 {post : Int32 → SX → Prop} {f : Nat} (hf : f < 6) (z : ¬ eN f = 0) (hp : post (sN f) (upd eN f 0, sN, wN, eL, sL, wL, yx)) : wpX_remove post (eN, sN, wN, eL, sL, wL, yx) (nI f) := by
  unfold wpX_remove
  dsimp only
  rw [nf_c (f := f) (by omega), nf_b0]
  exact nx_ref1 hf z (br_t rfl ⟨nf_v6 hf, nm_e ⟨nf_v6 hf, hp⟩⟩)
theorem nx_writeR {post : Int32 → SX → Prop} {x i w r : Int32} (h : nf_rf eN x r) (hp : post r (eN, sN, wN, eL, sL, wL, yx)) : wpX_write post (eN, sN, wN, eL, sL, wL, yx) x i w := by
  unfold wpX_write
  dsimp only
  exact nx_refR h (br_f (nf_rfn h) hp)
theorem nx_writeN {post : Int32 → SX → Prop} {i w : Int32} {f : Nat} (hf : f < 6) (z : ¬ eN f = 0) (hi : i < 0) (hp : post (-1) (eN, sN, wN, eL, sL, wL, yx)) : wpX_write post (eN, sN, wN, eL, sL, wL, yx) (nI f) i w := by
  unfold wpX_write
  dsimp only
  exact nx_ref1 hf z (br_t rfl (br_t hi hp))
theorem nx_writeB {post : Int32 → SX → Prop} {w : Int32} {f s i : Nat} (hf : f < 6) (z : ¬ eN f = 0) (es : sN f = nI s) (hs : s ≤ 4) (hi : i < 2 ^ 31) (hb : s < i ∨ 4 ≤ i) (hp : post (-1) (eN, sN, wN, eL, sL, wL, yx)) : wpX_write post (eN, sN, wN, eL, sL, wL, yx) (nI f) (nI i) w := by
  unfold wpX_write
  dsimp only
  rw [nf_c (f := f) (by omega), es]
  refine nx_ref1 hf z (br_t rfl (br_f (nI_pos hi) ⟨nf_v6 hf, ?_⟩))
  by_cases h : s < i
  · exact br_t (nI_lt h hi) hp
  · refine br_f (nI_nlt (by omega) (by omega)) (br_f ?_ hp)
    rw [nf_4]
    exact nI_nlt (by omega) hi
theorem nx_writeA {post : Int32 → SX → Prop} {w : Int32} {f s i : Nat} (hf : f < 6) (z : ¬ eN f = 0) (es : sN f = nI s) (hs : s ≤ 4) (hi : i < s) (hp : post (nI s) (eN, sN, upd wN (4 * f + i) w, eL, sL, wL, yx)) : wpX_write post (eN, sN, wN, eL, sL, wL, yx) (nI f) (nI i) w := by
  unfold wpX_write
  dsimp only
  rw [nf_c (f := f) (by omega), nf_xa, nf_c (f := 4 * f + i) (by omega), es]
  refine nx_ref1 hf z (br_t rfl (br_f (nI_pos (by omega)) ⟨nf_v6 hf, br_f (nI_nlt (by omega) (by omega)) (br_t ?_ ⟨nf_v24 (by omega), nm_e ⟨nf_v6 hf, br_f ?_ ⟨nf_v6 hf, hp⟩⟩⟩)⟩))
  · rw [nf_4]
    exact nI_lt (by omega) (by omega)
  · rw [nI_eq (by omega) (by omega)]
    omega
theorem nx_writeE {post : Int32 → SX → Prop} {w : Int32} {f s : Nat} (hf : f < 6) (z : ¬ eN f = 0) (es : sN f = nI s) (hs : s < 4) (hp : post (nI (s + 1)) (eN, upd sN f (nI (s + 1)), upd wN (4 * f + s) w, eL, sL, wL, yx)) : wpX_write post (eN, sN, wN, eL, sL, wL, yx) (nI f) (nI s) w := by
  unfold wpX_write
  dsimp only
  rw [nf_c (f := f) (by omega), nf_xa, nf_c (f := 4 * f + s) (by omega), es, nI_1]
  refine nx_ref1 hf z (br_t rfl (br_f (nI_pos (by omega)) ⟨nf_v6 hf, br_f (nI_nlt (by omega) (by omega)) (br_t ?_ ⟨nf_v24 (by omega), nm_e ⟨nf_v6 hf, br_t rfl ⟨nf_v6 hf, nm_e ⟨nf_v6 hf, ?_⟩⟩⟩⟩)⟩))
  · rw [nf_4]
    exact nI_lt (by omega) (by omega)
  · rw [pk_us]
    exact hp
theorem nx_truncR {post : Int32 → SX → Prop} {x n r : Int32} (h : nf_rf eN x r) (hp : post r (eN, sN, wN, eL, sL, wL, yx)) : wpX_truncate post (eN, sN, wN, eL, sL, wL, yx) x n := by
  unfold wpX_truncate
  dsimp only
  exact nx_refR h (br_f (nf_rfn h) hp)
theorem nx_truncN {post : Int32 → SX → Prop} {n : Int32} {f : Nat} (hf : f < 6) (z : ¬ eN f = 0) (hn : n < 0) (hp : post (-1) (eN, sN, wN, eL, sL, wL, yx)) : wpX_truncate post (eN, sN, wN, eL, sL, wL, yx) (nI f) n := by
  unfold wpX_truncate
  dsimp only
  exact nx_ref1 hf z (br_t rfl ⟨nf_v6 hf, nm_e (br_t hn hp)⟩)
theorem nx_truncB {post : Int32 → SX → Prop} {f s n : Nat} (hf : f < 6) (z : ¬ eN f = 0) (es : sN f = nI s) (hn : n < 2 ^ 31) (hb : s < n) (hp : post (-1) (eN, sN, wN, eL, sL, wL, yx)) : wpX_truncate post (eN, sN, wN, eL, sL, wL, yx) (nI f) (nI n) := by
  unfold wpX_truncate
  dsimp only
  rw [nf_c (f := f) (by omega), es]
  exact nx_ref1 hf z (br_t rfl ⟨nf_v6 hf, nm_e (br_f (nI_pos hn) (br_f (nI_ge hb hn) hp))⟩)
theorem nx_trunc1 {post : Int32 → SX → Prop} {f s n : Nat} (hf : f < 6) (z : ¬ eN f = 0) (es : sN f = nI s) (hs : s ≤ 4) (hn : n ≤ s) (hp : post (nI s) (eN, upd sN f (nI n), wN, eL, sL, wL, yx)) : wpX_truncate post (eN, sN, wN, eL, sL, wL, yx) (nI f) (nI n) := by
  unfold wpX_truncate
  dsimp only
  rw [nf_c (f := f) (by omega), es]
  exact nx_ref1 hf z (br_t rfl ⟨nf_v6 hf, nm_e (br_f (nI_pos (by omega)) (br_t (nI_le hn (by omega)) ⟨nf_v6 hf, nm_e hp⟩))⟩)
theorem nx_cwNN {post : SX → Prop} {f g : Nat} (hf : f < 6) (hg : g < 6) (hp : post (eN, sN, nf_cp wN wN (4 * g) (4 * f) 4, eL, sL, wL, yx)) : ∀ d i : Nat, i + d = 4 → wX_copyWords__wordsNow_wordsNow_3 post (nI g) (nI f) (d + 1) (nI i) eN sN (nf_cp wN wN (4 * g) (4 * f) i) eL sL wL yx := by
  intro d
  induction d with
  | zero =>
    intro i hi
    obtain rfl : i = 4 := by omega
    exact br_t nf_g4 hp
  | succ d ih =>
    intro i hi
    refine br_f (nf_l4 (by omega)) ?_
    rw [nf_xa, nf_xa, nf_c (f := 4 * g + i) (by omega), nf_c (f := 4 * f + i) (by omega)]
    exact ⟨nf_v24 (by omega), nf_v24 (by omega), nm_r (nf_c1 rfl (nf_co (by omega))) (nm_r (nI_1 i) (ih (i + 1) (by omega)))⟩
theorem nx_copyNN {post : SX → Prop} {f g : Nat} (hf : f < 6) (hg : g < 6) (hp : post (eN, sN, nf_cp wN wN (4 * g) (4 * f) 4, eL, sL, wL, yx)) : wpX_copyWords__wordsNow_wordsNow post (eN, sN, wN, eL, sL, wL, yx) (nI g) (nI f) := by
  have h := nx_cwNN hf hg hp 4 0 rfl
  rw [nf_cz, nI_0] at h
  exact ⟨_, h⟩
theorem nx_cwNL {post : SX → Prop} {f : Nat} (hf : f < 6) (hp : post (eN, sN, wN, eL, sL, nf_cp wN wL (4 * f) (4 * f) 4, yx)) : ∀ d i : Nat, i + d = 4 → wX_copyWords__wordsNow_wordsLasting_3 post (nI f) (nI f) (d + 1) (nI i) eN sN wN eL sL (nf_cp wN wL (4 * f) (4 * f) i) yx := by
  intro d
  induction d with
  | zero =>
    intro i hi
    obtain rfl : i = 4 := by omega
    exact br_t nf_g4 hp
  | succ d ih =>
    intro i hi
    refine br_f (nf_l4 (by omega)) ?_
    rw [nf_xa, nf_c (f := 4 * f + i) (by omega)]
    exact ⟨nf_v24 (by omega), nf_v24 (by omega), nm_r (nf_c1 rfl rfl) (nm_r (nI_1 i) (ih (i + 1) (by omega)))⟩
theorem nx_copyNL {post : SX → Prop} {f : Nat} (hf : f < 6) (hp : post (eN, sN, wN, eL, sL, nf_cp wN wL (4 * f) (4 * f) 4, yx)) : wpX_copyWords__wordsNow_wordsLasting post (eN, sN, wN, eL, sL, wL, yx) (nI f) (nI f) := by
  have h := nx_cwNL hf hp 4 0 rfl
  rw [nf_cz, nI_0] at h
  exact ⟨_, h⟩
theorem nx_cwLN {post : SX → Prop} {f : Nat} (hf : f < 6) (hp : post (eN, sN, nf_cp wL wN (4 * f) (4 * f) 4, eL, sL, wL, yx)) : ∀ d i : Nat, i + d = 4 → wX_copyWords__wordsLasting_wordsNow_3 post (nI f) (nI f) (d + 1) (nI i) eN sN (nf_cp wL wN (4 * f) (4 * f) i) eL sL wL yx := by
  intro d
  induction d with
  | zero =>
    intro i hi
    obtain rfl : i = 4 := by omega
    exact br_t nf_g4 hp
  | succ d ih =>
    intro i hi
    refine br_f (nf_l4 (by omega)) ?_
    rw [nf_xa, nf_c (f := 4 * f + i) (by omega)]
    exact ⟨nf_v24 (by omega), nf_v24 (by omega), nm_r (nf_c1 rfl rfl) (nm_r (nI_1 i) (ih (i + 1) (by omega)))⟩
theorem nx_copyLN {post : SX → Prop} {f : Nat} (hf : f < 6) (hp : post (eN, sN, nf_cp wL wN (4 * f) (4 * f) 4, eL, sL, wL, yx)) : wpX_copyWords__wordsLasting_wordsNow post (eN, sN, wN, eL, sL, wL, yx) (nI f) (nI f) := by
  have h := nx_cwLN hf hp 4 0 rfl
  rw [nf_cz, nI_0] at h
  exact ⟨_, h⟩
theorem nx_copy0 {post : Int32 → SX → Prop} {x y : Int32} (h : (x < 0 ∨ nI 6 ≤ x) ∨ ((∃ f, f < 6 ∧ x = nI f) ∧ (y < 0 ∨ nI 6 ≤ y))) (hp : post (-1) (eN, sN, wN, eL, sL, wL, yx)) : wpX_copy post (eN, sN, wN, eL, sL, wL, yx) x y := by
  unfold wpX_copy
  dsimp only
  rcases h with h | ⟨⟨f, hf, rfl⟩, h⟩
  · exact nx_file0 h (br_t rfl hp)
  · exact nx_file1 hf (br_f nf_10 (nx_file0 h (br_t rfl hp)))
theorem nx_copy3 {post : Int32 → SX → Prop} {f g : Nat} (hf : f < 6) (hg : g < 6) (z : eN f = 0 ∨ eN g = 0) (hp : post (-3) (eN, sN, wN, eL, sL, wL, yx)) : wpX_copy post (eN, sN, wN, eL, sL, wL, yx) (nI f) (nI g) := by
  unfold wpX_copy
  dsimp only
  rw [nf_c (f := f) (by omega)]
  refine nx_file1 hf (br_f nf_10 (nx_file1 hg (br_f nf_10 ⟨nf_v6 hf, ?_⟩)))
  by_cases zf : eN f = 0
  · exact br_t zf hp
  · rcases z with z | z
    · exact absurd z zf
    · refine br_f zf ⟨nf_v6 hg, br_t ?_ hp⟩
      rw [nf_c (f := g) (by omega)]
      exact z
theorem nx_copy1 {post : Int32 → SX → Prop} {f g : Nat} (hf : f < 6) (hg : g < 6) (zf : ¬ eN f = 0) (zg : ¬ eN g = 0) (hp : post (sN g) (eN, upd sN f (sN g), nf_cp wN wN (4 * g) (4 * f) 4, eL, sL, wL, yx)) : wpX_copy post (eN, sN, wN, eL, sL, wL, yx) (nI f) (nI g) := by
  have cf : (nI f).toNatClampNeg = f := nf_c (by omega)
  have cg : (nI g).toNatClampNeg = g := nf_c (by omega)
  unfold wpX_copy
  dsimp only
  refine nx_file1 hf (br_f nf_10 (nx_file1 hg (br_f nf_10 ⟨nf_v6 hf, br_f ?_ ⟨nf_v6 hg, br_f ?_ ⟨nf_v6 hg, nf_v6 hf, ?_⟩⟩⟩)))
  · rw [cf]
    exact zf
  · rw [cg]
    exact zg
  · rw [cf, cg]
    refine nm_e (nx_copyNN hf hg ?_)
    refine ⟨nf_v6 hf, ?_⟩
    dsimp only
    rw [pk_us]
    exact hp
theorem nx_last {post : SX → Prop} {f : Nat} (hf : f < 6) (hB : nf_B (eN f)) (hp : post (eN, sN, wN, upd eL f (eN f), upd sL f (sN f), nf_cp wN wL (4 * f) (4 * f) 4, yx)) : wpX_makeLast post (eN, sN, wN, eL, sL, wL, yx) (nI f) := by
  unfold wpX_makeLast
  dsimp only
  rw [nf_c (f := f) (by omega), nf_bv hB]
  exact ⟨nf_v6 hf, nf_v6 hf, nm_e ⟨nf_v6 hf, nf_v6 hf, nm_e (nx_copyNL hf hp)⟩⟩
theorem nx_mc {post : SX → Prop} (hB : ∀ i, i < 6 → nf_B (eN i)) (hp : post (eN, sN, wN, nf_cp eN eL 0 0 6, nf_cp sN sL 0 0 6, nf_cp wN wL 0 0 24, nf_cp (fun _ => 0) yx 0 0 6)) : ∀ d i : Nat, i + d = 6 → wX_makeCheckpoint_2 post (d + 1) (nI i) eN sN wN (nf_cp eN eL 0 0 i) (nf_cp sN sL 0 0 i) (nf_cp wN wL 0 0 (4 * i)) (nf_cp (fun _ => 0) yx 0 0 i) := by
  intro d
  induction d with
  | zero =>
    intro i hi
    obtain rfl : i = 6 := by omega
    exact br_t nf_g6 hp
  | succ d ih =>
    intro i hi
    have k := ih (i + 1) (by omega)
    refine br_f (nf_l6 (by omega)) (nx_last (by omega) (hB i (by omega)) ?_)
    dsimp only
    rw [nf_c (f := i) (by omega), nf_b0]
    refine ⟨nf_v6 (by omega), nm_e (nm_r (nI_1 i) ?_)⟩
    rw [nf_c1 (a := eN) (by omega) (congrArg eN (by omega)), nf_c1 (a := sN) (by omega) (congrArg sN (by omega)), nf_cc (by omega) (by omega) (fun _ _ => rfl), nf_c1 (a := fun _ => 0) (by omega) rfl]
    exact k
theorem nx_ckpt {post : SX → Prop} (hB : ∀ i, i < 6 → nf_B (eN i)) (hp : post (eN, sN, wN, nf_cp eN eL 0 0 6, nf_cp sN sL 0 0 6, nf_cp wN wL 0 0 24, nf_cp (fun _ => 0) yx 0 0 6)) : wpX_makeCheckpoint post (eN, sN, wN, eL, sL, wL, yx) := by
  have h := nx_mc hB hp 6 0 rfl
  rw [Nat.mul_zero, nf_cz, nf_cz, nf_cz, nf_cz, nI_0] at h
  exact ⟨_, h⟩
theorem nx_fsyncR {post : Int32 → SX → Prop} {x r : Int32} (h : nf_rf eN x r) (hp : post r (eN, sN, wN, eL, sL, wL, yx)) : wpX_fsync post (eN, sN, wN, eL, sL, wL, yx) x := by
  unfold wpX_fsync
  dsimp only
  exact nx_refR h (br_f (nf_rfn h) hp)
theorem nx_fsync0 {post : Int32 → SX → Prop} {f : Nat} (hf : f < 6) (z : ¬ eN f = 0) (hB : nf_B (eN f)) (y : yx f = 0) (hp : post 0 (eN, sN, wN, upd eL f (eN f), upd sL f (sN f), nf_cp wN wL (4 * f) (4 * f) 4, yx)) : wpX_fsync post (eN, sN, wN, eL, sL, wL, yx) (nI f) := by
  unfold wpX_fsync
  dsimp only
  rw [nf_c (f := f) (by omega)]
  exact nx_ref1 hf z (br_t rfl ⟨nf_v6 hf, br_t y (nx_last hf hB hp)⟩)
theorem nx_fsync1 {post : Int32 → SX → Prop} {f : Nat} (hf : f < 6) (z : ¬ eN f = 0) (hB : ∀ i, i < 6 → nf_B (eN i)) (y : ¬ yx f = 0) (hp : post 1 (eN, sN, wN, nf_cp eN eL 0 0 6, nf_cp sN sL 0 0 6, nf_cp wN wL 0 0 24, nf_cp (fun _ => 0) yx 0 0 6)) : wpX_fsync post (eN, sN, wN, eL, sL, wL, yx) (nI f) := by
  unfold wpX_fsync
  dsimp only
  rw [nf_c (f := f) (by omega)]
  exact nx_ref1 hf z (br_t rfl ⟨nf_v6 hf, br_f y (nx_ckpt hB hp)⟩)
theorem nx_cl {post : Int32 → Prop} (hp : post (nf_cnt eN 6)) : ∀ d i : Nat, i + d = 6 → wX_countExisting_4 post eN sN wN eL sL wL yx (d + 1) (nf_cnt eN i) (nI i) := by
  intro d
  induction d with
  | zero =>
    intro i hi
    obtain rfl : i = 6 := by omega
    exact br_t nf_g6 hp
  | succ d ih =>
    intro i hi
    have k := ih (i + 1) (by omega)
    refine br_f (nf_l6 (by omega)) ⟨nf_v6 (by omega), ?_⟩
    rw [nf_c (f := i) (by omega)]
    by_cases z : eN i = 0
    · rw [nf_cnt0 z] at k
      exact br_t z (nm_r (nI_1 i) k)
    · rw [nf_cnt1 z] at k
      exact br_f z (nm_e (nm_r (nI_1 i) k))
theorem nx_count {post : Int32 → Prop} (hp : post (nf_cnt eN 6)) : wpX_countExisting post (eN, sN, wN, eL, sL, wL, yx) := by
  have h := nx_cl (sN := sN) (wN := wN) (eL := eL) (sL := sL) (wL := wL) (yx := yx) hp 6 0 rfl
  rw [nI_0] at h
  exact ⟨_, h⟩
theorem nx_sync {post : Int32 → SX → Prop} (hB : ∀ i, i < 6 → nf_B (eN i)) (hp : post (nf_cnt eN 6) (eN, sN, wN, nf_cp eN eL 0 0 6, nf_cp sN sL 0 0 6, nf_cp wN wL 0 0 24, nf_cp (fun _ => 0) yx 0 0 6)) : wpX_sync post (eN, sN, wN, eL, sL, wL, yx) := by
  unfold wpX_sync
  dsimp only
  refine nx_ckpt hB ?_
  exact nx_count hp
theorem nx_cr {post : Int32 → SX → Prop} (hB : ∀ i, i < 6 → nf_B (eL i)) (hp : post (nf_cnt (nf_cp eL eN 0 0 6) 6) (nf_cp eL eN 0 0 6, nf_cp sL sN 0 0 6, nf_cp wL wN 0 0 24, eL, sL, wL, nf_cp (fun _ => 0) yx 0 0 6)) : ∀ d i : Nat, i + d = 6 → wX_crash_2 post (d + 1) (nI i) (nf_cp eL eN 0 0 i) (nf_cp sL sN 0 0 i) (nf_cp wL wN 0 0 (4 * i)) eL sL wL (nf_cp (fun _ => 0) yx 0 0 i) := by
  intro d
  induction d with
  | zero =>
    intro i hi
    obtain rfl : i = 6 := by omega
    refine br_t nf_g6 ?_
    exact nx_count hp
  | succ d ih =>
    intro i hi
    have k := ih (i + 1) (by omega)
    refine br_f (nf_l6 (by omega)) ?_
    rw [nf_c (f := i) (by omega), nf_bv (hB i (by omega))]
    refine ⟨nf_v6 (by omega), nf_v6 (by omega), nm_e ⟨nf_v6 (by omega), nf_v6 (by omega), nm_e (nx_copyLN (by omega) ?_)⟩⟩
    dsimp only
    rw [nf_b0]
    refine ⟨nf_v6 (by omega), nm_e (nm_r (nI_1 i) ?_)⟩
    rw [nf_c1 (a := eL) (by omega) (congrArg eL (by omega)), nf_c1 (a := sL) (by omega) (congrArg sL (by omega)), nf_cc (by omega) (by omega) (fun _ _ => rfl), nf_c1 (a := fun _ => 0) (by omega) rfl]
    exact k
theorem nx_crash {post : Int32 → SX → Prop} (hB : ∀ i, i < 6 → nf_B (eL i)) (hp : post (nf_cnt (nf_cp eL eN 0 0 6) 6) (nf_cp eL eN 0 0 6, nf_cp sL sN 0 0 6, nf_cp wL wN 0 0 24, eL, sL, wL, nf_cp (fun _ => 0) yx 0 0 6)) : wpX_crash post (eN, sN, wN, eL, sL, wL, yx) := by
  have h := nx_cr hB hp 6 0 rfl
  rw [Nat.mul_zero, nf_cz, nf_cz, nf_cz, nf_cz, nI_0] at h
  exact ⟨_, h⟩
theorem nx_existsR {post : Int32 → Prop} {x r : Int32} (h : nf_rf eN x r) (hp : post 0) : wpX_exists post (eN, sN, wN, eL, sL, wL, yx) x := by
  unfold wpX_exists
  dsimp only
  rcases h with ⟨h, rfl⟩ | ⟨f, hf, rfl, z, rfl⟩
  · exact nx_file0 h (br_t rfl hp)
  · rw [nf_c (f := f) (by omega)]
    exact nx_file1 hf (br_f nf_10 ⟨nf_v6 hf, br_t z hp⟩)
theorem nx_exists1 {post : Int32 → Prop} {f : Nat} (hf : f < 6) (z : ¬ eN f = 0) (hp : post 1) : wpX_exists post (eN, sN, wN, eL, sL, wL, yx) (nI f) := by
  unfold wpX_exists
  dsimp only
  rw [nf_c (f := f) (by omega)]
  exact nx_file1 hf (br_f nf_10 ⟨nf_v6 hf, br_f z hp⟩)
theorem nx_sizeR {post : Int32 → Prop} {x r : Int32} (h : nf_rf eN x r) (hp : post r) : wpX_size post (eN, sN, wN, eL, sL, wL, yx) x := by
  unfold wpX_size
  dsimp only
  exact nx_refR h (br_f (nf_rfn h) hp)
theorem nx_size1 {post : Int32 → Prop} {f : Nat} (hf : f < 6) (z : ¬ eN f = 0) (hp : post (sN f)) : wpX_size post (eN, sN, wN, eL, sL, wL, yx) (nI f) := by
  unfold wpX_size
  dsimp only
  rw [nf_c (f := f) (by omega)]
  exact nx_ref1 hf z (br_t rfl ⟨nf_v6 hf, hp⟩)
theorem nx_readR {post : Int32 → Prop} {x i r : Int32} (h : nf_rf eN x r) (hp : post 0) : wpX_read post (eN, sN, wN, eL, sL, wL, yx) x i := by
  unfold wpX_read
  dsimp only
  exact nx_refR h (br_f (nf_rfn h) hp)
theorem nx_readN {post : Int32 → Prop} {i : Int32} {f : Nat} (hf : f < 6) (z : ¬ eN f = 0) (hi : i < 0) (hp : post 0) : wpX_read post (eN, sN, wN, eL, sL, wL, yx) (nI f) i := by
  unfold wpX_read
  dsimp only
  exact nx_ref1 hf z (br_t rfl (br_t hi hp))
theorem nx_readB {post : Int32 → Prop} {f s i : Nat} (hf : f < 6) (z : ¬ eN f = 0) (es : sN f = nI s) (hi : i < 2 ^ 31) (hb : s ≤ i) (hp : post 0) : wpX_read post (eN, sN, wN, eL, sL, wL, yx) (nI f) (nI i) := by
  unfold wpX_read
  dsimp only
  rw [nf_c (f := f) (by omega), es]
  exact nx_ref1 hf z (br_t rfl (br_f (nI_pos hi) ⟨nf_v6 hf, br_f (nI_nlt hb hi) hp⟩))
theorem nx_read1 {post : Int32 → Prop} {f s i : Nat} (hf : f < 6) (z : ¬ eN f = 0) (es : sN f = nI s) (hs : s ≤ 4) (hi : i < s) (hp : post (wN (4 * f + i))) : wpX_read post (eN, sN, wN, eL, sL, wL, yx) (nI f) (nI i) := by
  unfold wpX_read
  dsimp only
  rw [nf_c (f := f) (by omega), nf_xa, nf_c (f := 4 * f + i) (by omega), es]
  exact nx_ref1 hf z (br_t rfl (br_f (nI_pos (by omega)) ⟨nf_v6 hf, br_t (nI_lt hi (by omega)) ⟨nf_v24 (by omega), hp⟩⟩))
theorem nx_df {post : Int32 → Prop} {B : Int32} {f s : Nat} (hf : f < 6) (es : sN f = nI s) (hs : s ≤ 4) (hp : post (B + nf_pw wN f s)) : ∀ d i : Nat, i + d = s → wX_digestOfFile_19 post (nI f) eN sN wN eL sL wL yx (d + 1) (B + nf_pw wN f i) (nI i) := by
  intro d
  induction d with
  | zero =>
    intro i hi
    obtain rfl : i = s := by omega
    refine ⟨nf_v6 hf, ?_⟩
    rw [nf_c (f := f) (by omega), es]
    exact br_t (nI_le (Nat.le_refl _) (by omega)) hp
  | succ d ih =>
    intro i hi
    refine ⟨nf_v6 hf, ?_⟩
    rw [nf_c (f := f) (by omega), es, nf_xa, nf_c (f := 4 * f + i) (by omega)]
    exact br_f (nI_ge (by omega) (by omega)) ⟨nf_v24 (by omega), nm_r (Int32.add_assoc _ _ _) (nm_r (nI_1 i) (ih (i + 1) (by omega)))⟩
theorem nx_dof {post : Int32 → Prop} {f s : Nat} (hf : f < 6) (es : sN f = nI s) (hs : s ≤ 4) (hp : post (1000 * (nI f + 1) * (sN f + 1) + nf_pw wN f (sN f).toNatClampNeg)) : wpX_digestOfFile post (eN, sN, wN, eL, sL, wL, yx) (nI f) := by
  have ec : (sN f).toNatClampNeg = s := by
    rw [es]
    exact nf_c (by omega)
  rw [ec] at hp
  have h := nx_df (eN := eN) (eL := eL) (sL := sL) (wL := wL) (yx := yx) hf es hs hp s 0 (by omega)
  rw [nI_0, show nf_pw wN f 0 = 0 from rfl, Int32.add_zero] at h
  unfold wpX_digestOfFile
  dsimp only
  rw [nf_c (f := f) (by omega)]
  exact ⟨nf_v6 hf, nm_e ⟨_, h⟩⟩
theorem nx_dl {post : Int32 → Prop} (hS : ∀ i, i < 6 → nf_S (sN i)) (hp : post (nf_dg eN sN wN 6)) : ∀ d i : Nat, i + d = 6 → wX_digest_4 post eN sN wN eL sL wL yx (d + 1) (nf_dg eN sN wN i) (nI i) := by
  intro d
  induction d with
  | zero =>
    intro i hi
    obtain rfl : i = 6 := by omega
    exact br_t nf_g6 hp
  | succ d ih =>
    intro i hi
    have k := ih (i + 1) (by omega)
    refine br_f (nf_l6 (by omega)) ⟨nf_v6 (by omega), ?_⟩
    rw [nf_c (f := i) (by omega)]
    by_cases z : eN i = 0
    · rw [nf_dg0 z] at k
      exact br_t z (nm_r (nI_1 i) k)
    · rw [nf_dg1 z] at k
      obtain ⟨s, hs, es⟩ := hS i (by omega)
      refine br_f z (nx_dof (by omega) es hs ?_)
      exact nm_e (nm_r (nI_1 i) k)
theorem nx_digest {post : Int32 → Prop} (hS : ∀ i, i < 6 → nf_S (sN i)) (hp : post (nf_dg eN sN wN 6)) : wpX_digest post (eN, sN, wN, eL, sL, wL, yx) := by
  have h := nx_dl (eL := eL) (sL := sL) (wL := wL) (yx := yx) hS hp 6 0 rfl
  rw [nI_0] at h
  exact ⟨_, h⟩
end
end
section
section
variable {th sz wd yy : Nat → Int32}
theorem ny_file0 {post : Int32 → Prop} {x : Int32} (h : x < 0 ∨ nI 6 ≤ x) (hp : post 0) : wpY_isFile post (th, sz, wd, yy) x := by
  by_cases z : x < 0
  · exact br_t z hp
  · rcases h with h | h
    · exact absurd h z
    · refine br_f z (br_t ?_ hp)
      rw [Int32.le_iff_toInt_le, nI_toInt (by decide)] at h
      rw [Int32.lt_iff_toInt_lt, nf_5, nI_toInt (by decide)]
      omega
theorem ny_file1 {post : Int32 → Prop} {f : Nat} (hf : f < 6) (hp : post 1) : wpY_isFile post (th, sz, wd, yy) (nI f) := by
  refine br_f (nI_pos (by omega)) (br_f ?_ hp)
  rw [nf_5]
  exact nI_nlt (by omega) (by omega)
theorem ny_testR {post : Int32 → Prop} {x r : Int32} (h : nf_rf th x r) (hp : post r) : wpY_test post (th, sz, wd, yy) x := by
  unfold wpY_test
  dsimp only
  rcases h with ⟨h, rfl⟩ | ⟨f, hf, rfl, z, rfl⟩
  · exact ny_file0 h (br_t rfl hp)
  · rw [nf_c (f := f) (by omega)]
    exact ny_file1 hf (br_f nf_10 ⟨nf_v12 (by omega), br_t z hp⟩)
theorem ny_test1 {post : Int32 → Prop} {f : Nat} (hf : f < 6) (z : ¬ th f = 0) (hp : post 0) : wpY_test post (th, sz, wd, yy) (nI f) := by
  unfold wpY_test
  dsimp only
  rw [nf_c (f := f) (by omega)]
  exact ny_file1 hf (br_f nf_10 ⟨nf_v12 (by omega), br_f z hp⟩)
theorem nf_00 : (0 : Int32) ≤ 0 := by decide
theorem ny_create0 {post : Int32 → SY → Prop} {x : Int32} (h : x < 0 ∨ nI 6 ≤ x) (hp : post (-1) (th, sz, wd, yy)) : wpY_create post (th, sz, wd, yy) x := by
  unfold wpY_create
  dsimp only
  exact ny_file0 h (br_t rfl hp)
theorem ny_create3 {post : Int32 → SY → Prop} {f : Nat} (hf : f < 6) (z : ¬ th f = 0) (hp : post (-3) (th, sz, wd, yy)) : wpY_create post (th, sz, wd, yy) (nI f) := by
  unfold wpY_create
  dsimp only
  rw [nf_c (f := f) (by omega)]
  exact ny_file1 hf (br_f nf_10 ⟨nf_v12 (by omega), br_f z hp⟩)
theorem ny_create1 {post : Int32 → SY → Prop} {f : Nat} (hf : f < 6) (z : th f = 0) (hp : post 0 (upd th f 1, upd sz f 0, wd, upd yy f 1)) : wpY_create post (th, sz, wd, yy) (nI f) := by
  unfold wpY_create
  dsimp only
  rw [nf_c (f := f) (by omega), nf_b1]
  exact ny_file1 hf (br_f nf_10 ⟨nf_v12 (by omega), br_t z ⟨nf_v12 (by omega), nm_e ⟨nf_v12 (by omega), nm_e ⟨nf_v6 hf, nm_e hp⟩⟩⟩⟩)
theorem ny_removeR {post : Int32 → SY → Prop} {x r : Int32} (h : nf_rf th x r) (hp : post r (th, sz, wd, yy)) : wpY_remove post (th, sz, wd, yy) x := by
  unfold wpY_remove
  dsimp only
  exact ny_testR h (br_f (nf_rfm h) hp)
theorem ny_remove1 {post : Int32 → SY → Prop} {f : Nat} (hf : f < 6) (z : ¬ th f = 0) (hp : post (sz f) (upd th f 0, sz, wd, upd yy f 0)) : wpY_remove post (th, sz, wd, yy) (nI f) := by
  unfold wpY_remove
  dsimp only
  rw [nf_c (f := f) (by omega), nf_b0]
  exact ny_test1 hf z (br_t nf_00 ⟨nf_v12 (by omega), nm_e ⟨nf_v6 hf, nm_e ⟨nf_v12 (by omega), hp⟩⟩⟩)
theorem ny_writeR {post : Int32 → SY → Prop} {x i w r : Int32} (h : nf_rf th x r) (hp : post r (th, sz, wd, yy)) : wpY_write post (th, sz, wd, yy) x i w := by
  unfold wpY_write
  dsimp only
  exact ny_testR h (br_f (nf_rfm h) hp)
theorem ny_writeN {post : Int32 → SY → Prop} {i w : Int32} {f : Nat} (hf : f < 6) (z : ¬ th f = 0) (hi : i < 0) (hp : post (-1) (th, sz, wd, yy)) : wpY_write post (th, sz, wd, yy) (nI f) i w := by
  unfold wpY_write
  dsimp only
  exact ny_test1 hf z (br_t nf_00 (br_t hi hp))
theorem ny_writeB {post : Int32 → SY → Prop} {w : Int32} {f s i : Nat} (hf : f < 6) (z : ¬ th f = 0) (es : sz f = nI s) (hs : s ≤ 4) (hi : i < 2 ^ 31) (hb : s < i ∨ 4 ≤ i) (hp : post (-1) (th, sz, wd, yy)) : wpY_write post (th, sz, wd, yy) (nI f) (nI i) w := by
  unfold wpY_write
  dsimp only
  rw [nf_c (f := f) (by omega), es]
  refine ny_test1 hf z (br_t nf_00 (br_f (nI_pos hi) ⟨nf_v12 (by omega), ?_⟩))
  by_cases h : s < i
  · exact br_t (nI_lt h hi) hp
  · obtain rfl : i = 4 := by omega
    exact br_f (nI_nlt (by omega) (by omega)) (br_t nf_4.symm hp)
theorem ny_writeA {post : Int32 → SY → Prop} {w : Int32} {f s i : Nat} (hf : f < 6) (z : ¬ th f = 0) (es : sz f = nI s) (hs : s ≤ 4) (hi : i < s) (hp : post (nI s) (th, sz, upd wd (4 * f + i) w, yy)) : wpY_write post (th, sz, wd, yy) (nI f) (nI i) w := by
  unfold wpY_write
  dsimp only
  rw [nf_c (f := f) (by omega), nf_ya, nf_c (f := 4 * f + i) (by omega), nf_us, es]
  refine ny_test1 hf z (br_t nf_00 (br_f (nI_pos (by omega)) ⟨nf_v12 (by omega), br_f (nI_nlt (by omega) (by omega)) (br_f ?_ ⟨nf_v48 (by omega), nm_e ⟨nf_v12 (by omega), br_f ?_ ⟨nf_v12 (by omega), nf_v12 (by omega), nm_e ⟨nf_v12 (by omega), ?_⟩⟩⟩⟩)⟩))
  · rw [nf_4, nI_eq (by omega) (by omega)]
    omega
  · rw [nI_eq (by omega) (by omega)]
    omega
  · rw [es]
    exact hp
theorem ny_writeE {post : Int32 → SY → Prop} {w : Int32} {f s : Nat} (hf : f < 6) (z : ¬ th f = 0) (es : sz f = nI s) (hs : s < 4) (hp : post (nI (s + 1)) (th, upd sz f (nI (s + 1)), upd wd (4 * f + s) w, yy)) : wpY_write post (th, sz, wd, yy) (nI f) (nI s) w := by
  unfold wpY_write
  dsimp only
  rw [nf_c (f := f) (by omega), nf_ya, nf_c (f := 4 * f + s) (by omega), es, nI_1]
  refine ny_test1 hf z (br_t nf_00 (br_f (nI_pos (by omega)) ⟨nf_v12 (by omega), br_f (nI_nlt (by omega) (by omega)) (br_f ?_ ⟨nf_v48 (by omega), nm_e ⟨nf_v12 (by omega), br_t rfl ⟨nf_v12 (by omega), nm_e ⟨nf_v12 (by omega), ?_⟩⟩⟩⟩)⟩))
  · rw [nf_4, nI_eq (by omega) (by omega)]
    omega
  · rw [pk_us]
    exact hp
theorem ny_truncR {post : Int32 → SY → Prop} {x n r : Int32} (h : nf_rf th x r) (hp : post r (th, sz, wd, yy)) : wpY_truncate post (th, sz, wd, yy) x n := by
  unfold wpY_truncate
  dsimp only
  exact ny_testR h (br_f (nf_rfm h) hp)
theorem ny_truncN {post : Int32 → SY → Prop} {n : Int32} {f : Nat} (hf : f < 6) (z : ¬ th f = 0) (hn : n < 0) (hp : post (-1) (th, sz, wd, yy)) : wpY_truncate post (th, sz, wd, yy) (nI f) n := by
  unfold wpY_truncate
  dsimp only
  exact ny_test1 hf z (br_t nf_00 (br_t hn hp))
theorem ny_truncB {post : Int32 → SY → Prop} {f s n : Nat} (hf : f < 6) (z : ¬ th f = 0) (es : sz f = nI s) (hn : n < 2 ^ 31) (hb : s < n) (hp : post (-1) (th, sz, wd, yy)) : wpY_truncate post (th, sz, wd, yy) (nI f) (nI n) := by
  unfold wpY_truncate
  dsimp only
  rw [nf_c (f := f) (by omega), es]
  exact ny_test1 hf z (br_t nf_00 (br_f (nI_pos hn) ⟨nf_v12 (by omega), br_f (nI_ge hb hn) hp⟩))
theorem ny_trunc1 {post : Int32 → SY → Prop} {f s n : Nat} (hf : f < 6) (z : ¬ th f = 0) (es : sz f = nI s) (hs : s ≤ 4) (hn : n ≤ s) (hp : post (nI s) (th, upd sz f (nI n), wd, yy)) : wpY_truncate post (th, sz, wd, yy) (nI f) (nI n) := by
  unfold wpY_truncate
  dsimp only
  rw [nf_c (f := f) (by omega), es]
  exact ny_test1 hf z (br_t nf_00 (br_f (nI_pos (by omega)) ⟨nf_v12 (by omega), br_t (nI_le hn (by omega)) ⟨nf_v12 (by omega), nm_e ⟨nf_v12 (by omega), nm_e hp⟩⟩⟩))
theorem ny_cl {post : SY → Prop} {a b : Nat} (ha : a < 12) (hb : b < 12) (hp : post (th, sz, nf_cp wd wd (4 * a) (4 * b) 4, yy)) : ∀ d i : Nat, i + d = 4 → wY_copyContent_14 post (nI a) (nI b) (d + 1) (nI i) th sz (nf_cp wd wd (4 * a) (4 * b) i) yy := by
  intro d
  induction d with
  | zero =>
    intro i hi
    obtain rfl : i = 4 := by omega
    exact br_t nf_g4 hp
  | succ d ih =>
    intro i hi
    refine br_f (nf_l4 (by omega)) ?_
    rw [nf_ya, nf_ya, nf_c (f := 4 * a + i) (by omega), nf_c (f := 4 * b + i) (by omega)]
    exact ⟨nf_v48 (by omega), nf_v48 (by omega), nm_r (nf_c1 rfl (nf_co (by omega))) (nm_r (nI_1 i) (ih (i + 1) (by omega)))⟩
theorem ny_cc {post : SY → Prop} {a b : Nat} (ha : a < 12) (hb : b < 12) (hp : post (th, upd sz b (sz a), nf_cp wd wd (4 * a) (4 * b) 4, yy)) : wpY_copyContent post (th, sz, wd, yy) (nI a) (nI b) := by
  have h := ny_cl ha hb hp 4 0 rfl
  rw [nf_cz, nI_0] at h
  unfold wpY_copyContent
  dsimp only
  rw [nf_c (f := a) (by omega), nf_c (f := b) (by omega)]
  exact ⟨nf_v12 ha, nf_v12 hb, nm_e ⟨_, h⟩⟩
theorem ny_copy0 {post : Int32 → SY → Prop} {x y : Int32} (h : (x < 0 ∨ nI 6 ≤ x) ∨ ((∃ f, f < 6 ∧ x = nI f) ∧ (y < 0 ∨ nI 6 ≤ y))) (hp : post (-1) (th, sz, wd, yy)) : wpY_copy post (th, sz, wd, yy) x y := by
  unfold wpY_copy
  dsimp only
  rcases h with h | ⟨⟨f, hf, rfl⟩, h⟩
  · exact ny_file0 h (br_t rfl hp)
  · exact ny_file1 hf (br_f nf_10 (ny_file0 h (br_t rfl hp)))
theorem ny_copy3 {post : Int32 → SY → Prop} {f g : Nat} (hf : f < 6) (hg : g < 6) (z : th f = 0 ∨ th g = 0) (hp : post (-3) (th, sz, wd, yy)) : wpY_copy post (th, sz, wd, yy) (nI f) (nI g) := by
  unfold wpY_copy
  dsimp only
  rw [nf_c (f := f) (by omega)]
  refine ny_file1 hf (br_f nf_10 (ny_file1 hg (br_f nf_10 ⟨nf_v12 (by omega), ?_⟩)))
  by_cases zf : th f = 0
  · exact br_t zf hp
  · rcases z with z | z
    · exact absurd z zf
    · refine br_f zf ⟨nf_v12 (by omega), br_t ?_ hp⟩
      rw [nf_c (f := g) (by omega)]
      exact z
theorem ny_copy1 {post : Int32 → SY → Prop} {f g : Nat} (hf : f < 6) (hg : g < 6) (zf : ¬ th f = 0) (zg : ¬ th g = 0) (hp : post (sz g) (th, upd sz f (sz g), nf_cp wd wd (4 * g) (4 * f) 4, yy)) : wpY_copy post (th, sz, wd, yy) (nI f) (nI g) := by
  have cf : (nI f).toNatClampNeg = f := nf_c (by omega)
  have cg : (nI g).toNatClampNeg = g := nf_c (by omega)
  unfold wpY_copy
  dsimp only
  refine ny_file1 hf (br_f nf_10 (ny_file1 hg (br_f nf_10 ⟨nf_v12 (by omega), br_f ?_ ⟨nf_v12 (by omega), br_f ?_ (ny_cc (by omega) (by omega) ?_)⟩⟩)))
  · rw [cf]
    exact zf
  · rw [cg]
    exact zg
  · refine ⟨nf_v12 (by omega), ?_⟩
    dsimp only
    rw [cf, pk_us]
    exact hp
theorem ny_ct {post : Int32 → SY → Prop} (hp : post (nf_cnt th 6) (th, sz, wd, nf_cp (fun _ => 0) yy 0 0 6)) : ∀ d i : Nat, i + d = 6 → wY_count_4 post (d + 1) (nf_cnt th i) (nI i) th sz wd (nf_cp (fun _ => 0) yy 0 0 i) := by
  intro d
  induction d with
  | zero =>
    intro i hi
    obtain rfl : i = 6 := by omega
    exact br_t nf_g6 hp
  | succ d ih =>
    intro i hi
    have k := ih (i + 1) (by omega)
    refine br_f (nf_l6 (by omega)) ⟨nf_v12 (by omega), ?_⟩
    rw [nf_c (f := i) (by omega)]
    have e : upd (nf_cp (fun _ => 0) yy 0 0 i) (nI i).toNatClampNeg (vp_nar .boolean 0) = nf_cp (fun _ => 0) yy 0 0 (i + 1) := by
      rw [nf_c (f := i) (by omega), nf_b0]
      exact nf_c1 (by omega) rfl
    by_cases z : th i = 0
    · rw [nf_cnt0 z] at k
      refine br_t z ?_
      exact ⟨nf_v6 (by omega), nm_r e (nm_r (nI_1 i) k)⟩
    · rw [nf_cnt1 z] at k
      refine br_f z ?_
      exact ⟨nf_v6 (by omega), nm_r e (nm_r (nI_1 i) k)⟩
theorem ny_count {post : Int32 → SY → Prop} (hp : post (nf_cnt th 6) (th, sz, wd, nf_cp (fun _ => 0) yy 0 0 6)) : wpY_count post (th, sz, wd, yy) := by
  have h := ny_ct hp 6 0 rfl
  rw [nI_0, nf_cz] at h
  exact ⟨_, h⟩
theorem ny_sl {post : Int32 → SY → Prop} (hB : ∀ i, i < 6 → nf_B (th i)) (hp : post (nf_cnt (nf_cp th th 0 6 6) 6) (nf_cp th th 0 6 6, nf_cp sz sz 0 6 6, nf_cp wd wd 0 24 24, nf_cp (fun _ => 0) yy 0 0 6)) : ∀ d i : Nat, i + d = 6 → wY_sync_2 post (d + 1) (nI i) (nf_cp th th 0 6 i) (nf_cp sz sz 0 6 i) (nf_cp wd wd 0 24 (4 * i)) yy := by
  intro d
  induction d with
  | zero =>
    intro i hi
    obtain rfl : i = 6 := by omega
    refine br_t nf_g6 ?_
    exact ny_count hp
  | succ d ih =>
    intro i hi
    have k := ih (i + 1) (by omega)
    refine br_f (nf_l6 (by omega)) ?_
    rw [nf_y6, nf_c (f := i) (by omega), nf_c (f := 6 + i) (by omega), nf_co (a := th) (j := i) (by omega), nf_bv (hB i (by omega)), nf_c1 (a := th) rfl (congrArg th (by omega))]
    refine ⟨nf_v12 (by omega), nf_v12 (by omega), nm_e (ny_cc (by omega) (by omega) ?_)⟩
    dsimp only
    rw [nf_co (a := sz) (j := i) (by omega), nf_c1 (a := sz) rfl (congrArg sz (by omega)), nf_cc (by omega) (by omega) (fun j hj => nf_co (by omega))]
    exact nm_r (nI_1 i) k
theorem ny_sync {post : Int32 → SY → Prop} (hB : ∀ i, i < 6 → nf_B (th i)) (hp : post (nf_cnt (nf_cp th th 0 6 6) 6) (nf_cp th th 0 6 6, nf_cp sz sz 0 6 6, nf_cp wd wd 0 24 24, nf_cp (fun _ => 0) yy 0 0 6)) : wpY_sync post (th, sz, wd, yy) := by
  have h := ny_sl hB hp 6 0 rfl
  rw [Nat.mul_zero, nf_cz, nf_cz, nf_cz, nI_0] at h
  exact ⟨_, h⟩
theorem ny_fsyncR {post : Int32 → SY → Prop} {x r : Int32} (h : nf_rf th x r) (hp : post r (th, sz, wd, yy)) : wpY_fsync post (th, sz, wd, yy) x := by
  unfold wpY_fsync
  dsimp only
  exact ny_testR h (br_f (nf_rfm h) hp)
theorem ny_fsync0 {post : Int32 → SY → Prop} {f : Nat} (hf : f < 6) (z : ¬ th f = 0) (y : yy f = 0) (hp : post 0 (upd th (6 + f) 1, upd sz (6 + f) (sz f), nf_cp wd wd (4 * f) (4 * (6 + f)) 4, yy)) : wpY_fsync post (th, sz, wd, yy) (nI f) := by
  unfold wpY_fsync
  dsimp only
  rw [nf_y6, nf_c (f := f) (by omega), nf_c (f := 6 + f) (by omega), nf_b1]
  exact ny_test1 hf z (br_t nf_00 ⟨nf_v6 hf, br_t y ⟨nf_v12 (by omega), nm_e (ny_cc (by omega) (by omega) hp)⟩⟩)
theorem ny_fsync1 {post : Int32 → SY → Prop} {f : Nat} (hf : f < 6) (z : ¬ th f = 0) (hB : ∀ i, i < 6 → nf_B (th i)) (y : ¬ yy f = 0) (hp : post 1 (nf_cp th th 0 6 6, nf_cp sz sz 0 6 6, nf_cp wd wd 0 24 24, nf_cp (fun _ => 0) yy 0 0 6)) : wpY_fsync post (th, sz, wd, yy) (nI f) := by
  unfold wpY_fsync
  dsimp only
  rw [nf_c (f := f) (by omega)]
  exact ny_test1 hf z (br_t nf_00 ⟨nf_v6 hf, br_f y (ny_sync hB hp)⟩)
theorem ny_cr {post : Int32 → SY → Prop} (hB : ∀ i, i < 12 → nf_B (th i)) (hp : post (nf_cnt (nf_cp th th 6 0 6) 6) (nf_cp th th 6 0 6, nf_cp sz sz 6 0 6, nf_cp wd wd 24 0 24, nf_cp (fun _ => 0) yy 0 0 6)) : ∀ d i : Nat, i + d = 6 → wY_crash_2 post (d + 1) (nI i) (nf_cp th th 6 0 i) (nf_cp sz sz 6 0 i) (nf_cp wd wd 24 0 (4 * i)) yy := by
  intro d
  induction d with
  | zero =>
    intro i hi
    obtain rfl : i = 6 := by omega
    refine br_t nf_g6 ?_
    exact ny_count hp
  | succ d ih =>
    intro i hi
    have k := ih (i + 1) (by omega)
    refine br_f (nf_l6 (by omega)) ?_
    rw [nf_y6, nf_c (f := i) (by omega), nf_c (f := 6 + i) (by omega), nf_co (a := th) (j := 6 + i) (by omega), nf_bv (hB (6 + i) (by omega)), nf_c1 (a := th) (by omega) rfl]
    refine ⟨nf_v12 (by omega), nf_v12 (by omega), nm_e (ny_cc (by omega) (by omega) ?_)⟩
    dsimp only
    rw [nf_co (a := sz) (j := 6 + i) (by omega), nf_c1 (a := sz) (by omega) rfl, nf_cc (by omega) (by omega) (fun j hj => nf_co (by omega))]
    exact nm_r (nI_1 i) k
theorem ny_crash {post : Int32 → SY → Prop} (hB : ∀ i, i < 12 → nf_B (th i)) (hp : post (nf_cnt (nf_cp th th 6 0 6) 6) (nf_cp th th 6 0 6, nf_cp sz sz 6 0 6, nf_cp wd wd 24 0 24, nf_cp (fun _ => 0) yy 0 0 6)) : wpY_crash post (th, sz, wd, yy) := by
  have h := ny_cr hB hp 6 0 rfl
  rw [Nat.mul_zero, nf_cz, nf_cz, nf_cz, nI_0] at h
  exact ⟨_, h⟩
theorem ny_existsR {post : Int32 → Prop} {x r : Int32} (h : nf_rf th x r) (hp : post 0) : wpY_exists post (th, sz, wd, yy) x := by
  unfold wpY_exists
  dsimp only
  rcases h with ⟨h, rfl⟩ | ⟨f, hf, rfl, z, rfl⟩
  · exact ny_file0 h (br_t rfl hp)
  · rw [nf_c (f := f) (by omega)]
    exact ny_file1 hf (br_f nf_10 ⟨nf_v12 (by omega), br_t z hp⟩)
theorem ny_exists1 {post : Int32 → Prop} {f : Nat} (hf : f < 6) (z : ¬ th f = 0) (hp : post 1) : wpY_exists post (th, sz, wd, yy) (nI f) := by
  unfold wpY_exists
  dsimp only
  rw [nf_c (f := f) (by omega)]
  exact ny_file1 hf (br_f nf_10 ⟨nf_v12 (by omega), br_f z hp⟩)
theorem ny_sizeR {post : Int32 → Prop} {x r : Int32} (h : nf_rf th x r) (hp : post r) : wpY_size post (th, sz, wd, yy) x := by
  unfold wpY_size
  dsimp only
  exact ny_testR h (br_f (nf_rfm h) hp)
theorem ny_size1 {post : Int32 → Prop} {f : Nat} (hf : f < 6) (z : ¬ th f = 0) (hp : post (sz f)) : wpY_size post (th, sz, wd, yy) (nI f) := by
  unfold wpY_size
  dsimp only
  rw [nf_c (f := f) (by omega)]
  exact ny_test1 hf z (br_t nf_00 ⟨nf_v12 (by omega), hp⟩)
theorem ny_readR {post : Int32 → Prop} {x i r : Int32} (h : nf_rf th x r) (hp : post 0) : wpY_read post (th, sz, wd, yy) x i := by
  unfold wpY_read
  dsimp only
  exact ny_existsR h (br_t rfl hp)
theorem ny_readN {post : Int32 → Prop} {i : Int32} {f : Nat} (hf : f < 6) (z : ¬ th f = 0) (hi : i < 0) (hp : post 0) : wpY_read post (th, sz, wd, yy) (nI f) i := by
  unfold wpY_read
  dsimp only
  exact ny_exists1 hf z (br_f nf_10 (br_t hi hp))
theorem ny_readB {post : Int32 → Prop} {f s i : Nat} (hf : f < 6) (z : ¬ th f = 0) (es : sz f = nI s) (hi : i < 2 ^ 31) (hb : s ≤ i) (hp : post 0) : wpY_read post (th, sz, wd, yy) (nI f) (nI i) := by
  unfold wpY_read
  dsimp only
  rw [nf_c (f := f) (by omega), es]
  exact ny_exists1 hf z (br_f nf_10 (br_f (nI_pos hi) ⟨nf_v12 (by omega), br_t (nI_le hb hi) hp⟩))
theorem ny_read1 {post : Int32 → Prop} {f s i : Nat} (hf : f < 6) (z : ¬ th f = 0) (es : sz f = nI s) (hs : s ≤ 4) (hi : i < s) (hp : post (wd (4 * f + i))) : wpY_read post (th, sz, wd, yy) (nI f) (nI i) := by
  unfold wpY_read
  dsimp only
  rw [nf_c (f := f) (by omega), nf_ya, nf_c (f := 4 * f + i) (by omega), es]
  exact ny_exists1 hf z (br_f nf_10 (br_f (nI_pos (by omega)) ⟨nf_v12 (by omega), br_f (nI_ge hi (by omega)) ⟨nf_v48 (by omega), hp⟩⟩))
theorem ny_d0 {post : Int32 → Prop} {J : Int32 → Int32 → Prop} {B : Int32} {f : Nat} (hf : f < 6) (z : th f = 0) (hp : J B (nI (f + 1))) : ∀ d i : Nat, i + d = 4 → wY_digest_44 post J (nI f) th sz wd yy (d + 1) B (nI i) := by
  intro d
  induction d with
  | zero =>
    intro i hi
    obtain rfl : i = 4 := by omega
    exact br_t nf_g4 (nm_r (nI_1 f) hp)
  | succ d ih =>
    intro i hi
    refine br_f (nf_l4 (by omega)) (ny_readR (r := -3) (Or.inr ⟨f, hf, rfl, z, rfl⟩) ?_)
    refine nm_r (e' := B) ?_ (nm_r (nI_1 i) (ih (i + 1) (by omega)))
    rw [Int32.mul_zero, Int32.add_zero]
theorem ny_d1 {post : Int32 → Prop} {J : Int32 → Int32 → Prop} {B : Int32} {f s : Nat} (hf : f < 6) (z : ¬ th f = 0) (es : sz f = nI s) (hs : s ≤ 4) (hp : J (B + nf_qw wd f s 4) (nI (f + 1))) : ∀ d i : Nat, i + d = 4 → wY_digest_44 post J (nI f) th sz wd yy (d + 1) (B + nf_qw wd f s i) (nI i) := by
  intro d
  induction d with
  | zero =>
    intro i hi
    obtain rfl : i = 4 := by omega
    exact br_t nf_g4 (nm_r (nI_1 f) hp)
  | succ d ih =>
    intro i hi
    have k := ih (i + 1) (by omega)
    refine br_f (nf_l4 (by omega)) ?_
    by_cases h : i < s
    · refine ny_read1 hf z es hs h ?_
      refine nm_r (e' := B + nf_qw wd f s (i + 1)) ?_ (nm_r (nI_1 i) k)
      rw [Int32.add_assoc]
      show _ = B + (nf_qw wd f s i + (8 * nI f + nI i + 1) * (if i < s then wd (4 * f + i) else 0))
      rw [if_pos h]
    · refine ny_readB hf z es (by omega) (by omega) ?_
      refine nm_r (e' := B + nf_qw wd f s (i + 1)) ?_ (nm_r (nI_1 i) k)
      rw [Int32.add_assoc]
      show _ = B + (nf_qw wd f s i + (8 * nI f + nI i + 1) * (if i < s then wd (4 * f + i) else 0))
      rw [if_neg h]
theorem ny_dl {post : Int32 → Prop} (hS : ∀ i, i < 6 → nf_S (sz i)) (hp : post (nf_dg th sz wd 6)) : ∀ d i : Nat, i + d = 6 → wY_digest_4 post th sz wd yy (d + 1) (nf_dg th sz wd i) (nI i) := by
  intro d
  induction d with
  | zero =>
    intro i hi
    obtain rfl : i = 6 := by omega
    exact br_t nf_g6 hp
  | succ d ih =>
    intro i hi
    have k := ih (i + 1) (by omega)
    refine br_f (nf_l6 (by omega)) ⟨nf_v12 (by omega), ?_⟩
    rw [nf_c (f := i) (by omega)]
    by_cases z : th i = 0
    · rw [nf_dg0 z] at k
      have h := ny_d0 (post := post) (sz := sz) (wd := wd) (yy := yy) (by omega) z k 4 0 rfl
      rw [nI_0] at h
      exact br_t z ⟨_, h⟩
    · obtain ⟨s, hs, es⟩ := hS i (by omega)
      have ec : (sz i).toNatClampNeg = s := by
        rw [es]
        exact nf_c (by omega)
      rw [nf_dg1 z, ec, ← nf_qw4 hs, ← Int32.add_assoc] at k
      have h := ny_d1 (post := post) (yy := yy) (by omega) z es hs k 4 0 rfl
      rw [nI_0, show nf_qw wd i s 0 = 0 from rfl, Int32.add_zero] at h
      exact br_f z ⟨nf_v12 (by omega), nm_e ⟨_, h⟩⟩
theorem ny_digest {post : Int32 → Prop} (hS : ∀ i, i < 6 → nf_S (sz i)) (hp : post (nf_dg th sz wd 6)) : wpY_digest post (th, sz, wd, yy) := by
  have h := ny_dl (yy := yy) hS hp 6 0 rfl
  rw [nI_0] at h
  exact ⟨_, h⟩
end
end
section
section
variable {eN sN wN eL sL wL yx th sz wd yy : Nat → Int32}
/-- the sizes differ: the reference answers 1 at the end of its words, or before -/
theorem nu_y1 {f s : Nat} (hf : f < 6) (es : sz f = nI s) (hs : s ≤ 4) (hn : ¬ sz f = sz (6 + f)) {post : Int32 → Prop} (hp : post 1) : ∀ d i : Nat, i + d = s → wY_differs_33 post (nI f) th sz wd yy (d + 1) (nI i) := by
  intro d
  induction d with
  | zero =>
    intro i hi
    obtain rfl : i = s := by omega
    refine ⟨nf_v12 (by omega), ?_⟩
    rw [nf_y6, nf_c (f := f) (by omega), nf_c (f := 6 + f) (by omega)]
    refine br_t ?_ ⟨nf_v12 (by omega), nf_v12 (by omega), br_f hn hp⟩
    rw [es]
    exact nI_le (Nat.le_refl _) (by omega)
  | succ d ih =>
    intro i hi
    refine ⟨nf_v12 (by omega), ?_⟩
    rw [nf_ya, nf_yb, nf_c (f := 4 * f + i) (by omega), nf_c (f := 24 + (4 * f + i)) (by omega)]
    refine br_f ?_ ⟨nf_v48 (by omega), nf_v48 (by omega), ?_⟩
    · rw [nf_c (f := f) (by omega), es]
      exact nI_ge (by omega) (by omega)
    · by_cases e : wd (4 * f + i) = wd (24 + (4 * f + i))
      · exact br_t e (nm_r (nI_1 i) (ih (i + 1) (by omega)))
      · exact br_f e hp
/-- the sizes are the same: both look at the same words -/
theorem nu_xy {f s : Nat} (hf : f < 6) (ex : sN f = nI s) (es : sz f = nI s) (hs : s ≤ 4) (he : sz f = sz (6 + f)) (hN : ∀ j, j < 24 → wN j = wd j) (hL : ∀ j, j < 24 → wL j = wd (24 + j)) : ∀ d i : Nat, i + d = s → ∃ r : Int32, (∀ post : Int32 → Prop, post r → wX_wouldChange_47 post (nI f) eN sN wN eL sL wL yx (d + 1) (nI i)) ∧ (∀ post : Int32 → Prop, post r → wY_differs_33 post (nI f) th sz wd yy (d + 1) (nI i)) := by
  intro d
  induction d with
  | zero =>
    intro i hi
    obtain rfl : i = s := by omega
    refine ⟨0, fun post hp => ⟨nf_v6 hf, br_t ?_ hp⟩, fun post hp => ⟨nf_v12 (by omega), br_t ?_ ⟨nf_v12 (by omega), ?_⟩⟩⟩
    · rw [nf_c (f := f) (by omega), ex]
      exact nI_le (Nat.le_refl _) (by omega)
    · rw [nf_c (f := f) (by omega), es]
      exact nI_le (Nat.le_refl _) (by omega)
    · rw [nf_y6, nf_c (f := f) (by omega), nf_c (f := 6 + f) (by omega)]
      exact ⟨nf_v12 (by omega), br_t he hp⟩
  | succ d ih =>
    intro i hi
    have gx : ¬ sN (nI f).toNatClampNeg ≤ nI i := by
      rw [nf_c (f := f) (by omega), ex]
      exact nI_ge (by omega) (by omega)
    have gy : ¬ sz (nI f).toNatClampNeg ≤ nI i := by
      rw [nf_c (f := f) (by omega), es]
      exact nI_ge (by omega) (by omega)
    have aN := hN (4 * f + i) (by omega)
    have aL := hL (4 * f + i) (by omega)
    by_cases e : wd (4 * f + i) = wd (24 + (4 * f + i))
    · obtain ⟨r, hX, hY⟩ := ih (i + 1) (by omega)
      refine ⟨r, fun post hp => ⟨nf_v6 hf, br_f gx ?_⟩, fun post hp => ⟨nf_v12 (by omega), br_f gy ?_⟩⟩
      · rw [nf_xa, nf_c (f := 4 * f + i) (by omega)]
        exact ⟨nf_v24 (by omega), nf_v24 (by omega), br_t (aN.trans (e.trans aL.symm)) (nm_r (nI_1 i) (hX post hp))⟩
      · rw [nf_ya, nf_yb, nf_c (f := 4 * f + i) (by omega), nf_c (f := 24 + (4 * f + i)) (by omega)]
        exact ⟨nf_v48 (by omega), nf_v48 (by omega), br_t e (nm_r (nI_1 i) (hY post hp))⟩
    · refine ⟨1, fun post hp => ⟨nf_v6 hf, br_f gx ?_⟩, fun post hp => ⟨nf_v12 (by omega), br_f gy ?_⟩⟩
      · rw [nf_xa, nf_c (f := 4 * f + i) (by omega)]
        exact ⟨nf_v24 (by omega), nf_v24 (by omega), br_f (fun q => e (aN.symm.trans (q.trans aL))) hp⟩
      · rw [nf_ya, nf_yb, nf_c (f := 4 * f + i) (by omega), nf_c (f := 24 + (4 * f + i)) (by omega)]
        exact ⟨nf_v48 (by omega), nf_v48 (by omega), br_f e hp⟩
theorem nu_file (h : nf_R eN sN wN eL sL wL yx th sz wd yy) {f : Nat} (hf : f < 6) : ∃ r : Int32, (∀ post : Int32 → Prop, post r → wpX_wouldChange post (eN, sN, wN, eL, sL, wL, yx) (nI f)) ∧ (∀ post : Int32 → Prop, post r → wpY_differs post (th, sz, wd, yy) (nI f)) := by
  obtain ⟨h1, h2, h3, h4, h5, h6, h7, h8, h9⟩ := h
  have e1 := h1 f hf
  have e2 := h2 f hf
  have e3 := h3 f hf
  have e4 := h4 f hf
  obtain ⟨s, hs, es⟩ := h8 f (by omega)
  have cf : (nI f).toNatClampNeg = f := nf_c (by omega)
  have c6 : (nI (6 + f)).toNatClampNeg = 6 + f := nf_c (by omega)
  have v6 : vp_in (nI f) 6 := nf_v6 hf
  have va : vp_in (nI f) 12 := nf_v12 (by omega)
  have vb : vp_in (nI (6 + f)) 12 := nf_v12 (by omega)
  unfold wpX_wouldChange wpY_differs
  dsimp only
  rw [nf_y6, cf, c6, e1, e2, e3, e4]
  by_cases a : th f = th (6 + f)
  · by_cases z : th f = 0
    · exact ⟨0, fun post hp => ⟨v6, v6, br_t a ⟨v6, br_t z hp⟩⟩, fun post hp => ⟨va, vb, br_t a ⟨va, br_t z hp⟩⟩⟩
    · by_cases q : sz f = sz (6 + f)
      · obtain ⟨r, hX, hY⟩ := nu_xy (eN := eN) (eL := eL) (sL := sL) (yx := yx) (th := th) (yy := yy) hf (e3.trans es) es hs q h5 h6 s 0 (by omega)
        rw [nI_0] at hX hY
        exact ⟨r, fun post hp => ⟨v6, v6, br_t a ⟨v6, br_f z ⟨v6, v6, br_t q ⟨_, hX post hp⟩⟩⟩⟩, fun post hp => ⟨va, vb, br_t a ⟨va, br_f z ⟨_, hY post hp⟩⟩⟩⟩
      · refine ⟨1, fun post hp => ⟨v6, v6, br_t a ⟨v6, br_f z ⟨v6, v6, br_f q hp⟩⟩⟩, fun post hp => ⟨va, vb, br_t a ⟨va, br_f z ?_⟩⟩⟩
        have h := nu_y1 (th := th) (wd := wd) (yy := yy) hf es hs q hp s 0 (by omega)
        rw [nI_0] at h
        exact ⟨_, h⟩
  · exact ⟨1, fun post hp => ⟨v6, v6, br_f a hp⟩, fun post hp => ⟨va, vb, br_f a hp⟩⟩
theorem nu_loop (h : nf_R eN sN wN eL sL wL yx th sz wd yy) : ∀ (d i : Nat) (c : Int32), i + d = 6 → ∃ r : Int32, (∀ post : Int32 → Prop, post r → wX_unsafe_4 post eN sN wN eL sL wL yx (d + 1) c (nI i)) ∧ (∀ post : Int32 → Prop, post r → wY_unsafe_4 post th sz wd yy (d + 1) c (nI i)) := by
  intro d
  induction d with
  | zero =>
    intro i c hi
    obtain rfl : i = 6 := by omega
    exact ⟨c, fun post hp => br_t nf_g6 hp, fun post hp => br_t nf_g6 hp⟩
  | succ d ih =>
    intro i c hi
    have g := nf_l6 (i := i) (by omega)
    obtain ⟨r, hX, hY⟩ := nu_file h (f := i) (by omega)
    by_cases z : r = 0
    · obtain ⟨q, qX, qY⟩ := ih (i + 1) c (by omega)
      exact ⟨q, fun post hp => br_f g (hX _ (br_t z (nm_r (nI_1 i) (qX post hp)))), fun post hp => br_f g (hY _ (br_t z (nm_r (nI_1 i) (qY post hp))))⟩
    · obtain ⟨q, qX, qY⟩ := ih (i + 1) (c + 1) (by omega)
      exact ⟨q, fun post hp => br_f g (hX _ (br_f z (nm_e (nm_r (nI_1 i) (qX post hp))))), fun post hp => br_f g (hY _ (br_f z (nm_e (nm_r (nI_1 i) (qY post hp)))))⟩
end
end
section
/-- X's state and the reference's hold the same files, now and lasting -/
def i_Rel (_ : Nat) (u : SX) (v : SY) : Prop := nf_R u.1 u.2.1 u.2.2.1 u.2.2.2.1 u.2.2.2.2.1 u.2.2.2.2.2.1 u.2.2.2.2.2.2 v.1 v.2.1 v.2.2.1 v.2.2.2
theorem i_up {k : Nat} {u : SX} {v : SY} (h : i_Rel k u v) : i_Rel (k + 4) u v := h
theorem i_vc0 : wpX_init (fun u => wpY_init (fun v => i_Rel 0 u v)) := nf_Rinit
theorem i_vc_create {k : Nat} {u : SX} {v : SY} (I : i_Rel k u v) (hk : k + 4 ≤ 2048) (v1 : Int32) : wpX_create (fun r u' => wpY_create (fun r' v' => r' = r ∧ i_Rel (k + 4) u' v') v v1) u v1 := by
  obtain ⟨eN, sN, wN, eL, sL, wL, yx⟩ := u
  obtain ⟨th, sz, wd, yy⟩ := v
  have R : nf_R eN sN wN eL sL wL yx th sz wd yy := I
  rcases pk_ix v1 (n := 6) (by decide) with h | h | ⟨f, hf, rfl⟩
  · exact nx_create0 (Or.inl h) (ny_create0 (Or.inl h) ⟨rfl, R⟩)
  · exact nx_create0 (Or.inr h) (ny_create0 (Or.inr h) ⟨rfl, R⟩)
  · by_cases z : th f = 0
    · exact nx_create1 hf ((R.1 f hf).trans z) (ny_create1 hf z ⟨rfl, nf_Rcreate R hf⟩)
    · exact nx_create3 hf (fun q => z ((R.1 f hf).symm.trans q)) (ny_create3 hf z ⟨rfl, R⟩)
theorem i_vc_remove {k : Nat} {u : SX} {v : SY} (I : i_Rel k u v) (hk : k + 4 ≤ 2048) (v1 : Int32) : wpX_remove (fun r u' => wpY_remove (fun r' v' => r' = r ∧ i_Rel (k + 4) u' v') v v1) u v1 := by
  obtain ⟨eN, sN, wN, eL, sL, wL, yx⟩ := u
  obtain ⟨th, sz, wd, yy⟩ := v
  have R : nf_R eN sN wN eL sL wL yx th sz wd yy := I
  rcases nf_rfD eN v1 with ⟨r, h⟩ | ⟨f, hf, rfl, z⟩
  · exact nx_removeR h (ny_removeR (nf_rfC h R.1) ⟨rfl, R⟩)
  · exact nx_remove1 hf z (ny_remove1 hf (fun q => z ((R.1 f hf).trans q)) ⟨(R.2.2.1 f hf).symm, nf_Rremove R hf⟩)
theorem i_vc_write {k : Nat} {u : SX} {v : SY} (I : i_Rel k u v) (hk : k + 4 ≤ 2048) (v1 : Int32) (v2 : Int32) (v3 : Int32) : wpX_write (fun r u' => wpY_write (fun r' v' => r' = r ∧ i_Rel (k + 4) u' v') v v1 v2 v3) u v1 v2 v3 := by
  obtain ⟨eN, sN, wN, eL, sL, wL, yx⟩ := u
  obtain ⟨th, sz, wd, yy⟩ := v
  have R : nf_R eN sN wN eL sL wL yx th sz wd yy := I
  rcases nf_rfD eN v1 with ⟨r, h⟩ | ⟨f, hf, rfl, z⟩
  · exact nx_writeR h (ny_writeR (nf_rfC h R.1) ⟨rfl, R⟩)
  · have zy : ¬ th f = 0 := fun q => z ((R.1 f hf).trans q)
    obtain ⟨s, hs, es⟩ := R.2.2.2.2.2.2.2.1 f (by omega)
    have ex : sN f = nI s := (R.2.2.1 f hf).trans es
    by_cases n : v2 < 0
    · exact nx_writeN hf z n (ny_writeN hf zy n ⟨rfl, R⟩)
    · obtain ⟨i, hi, rfl⟩ := nI_of n
      by_cases b : s < i ∨ 4 ≤ i
      · exact nx_writeB hf z ex hs hi b (ny_writeB hf zy es hs hi b ⟨rfl, R⟩)
      · by_cases q : i < s
        · exact nx_writeA hf z ex hs q (ny_writeA hf zy es hs q ⟨rfl, nf_Rword R (by omega) v3⟩)
        · obtain rfl : i = s := by omega
          exact nx_writeE hf z ex (by omega) (ny_writeE hf zy es (by omega) ⟨rfl, nf_Rword (nf_Rsize R hf (by omega)) (by omega) v3⟩)
theorem i_vc_truncate {k : Nat} {u : SX} {v : SY} (I : i_Rel k u v) (hk : k + 4 ≤ 2048) (v1 : Int32) (v2 : Int32) : wpX_truncate (fun r u' => wpY_truncate (fun r' v' => r' = r ∧ i_Rel (k + 4) u' v') v v1 v2) u v1 v2 := by
  obtain ⟨eN, sN, wN, eL, sL, wL, yx⟩ := u
  obtain ⟨th, sz, wd, yy⟩ := v
  have R : nf_R eN sN wN eL sL wL yx th sz wd yy := I
  rcases nf_rfD eN v1 with ⟨r, h⟩ | ⟨f, hf, rfl, z⟩
  · exact nx_truncR h (ny_truncR (nf_rfC h R.1) ⟨rfl, R⟩)
  · have zy : ¬ th f = 0 := fun q => z ((R.1 f hf).trans q)
    obtain ⟨s, hs, es⟩ := R.2.2.2.2.2.2.2.1 f (by omega)
    have ex : sN f = nI s := (R.2.2.1 f hf).trans es
    by_cases n : v2 < 0
    · exact nx_truncN hf z n (ny_truncN hf zy n ⟨rfl, R⟩)
    · obtain ⟨i, hi, rfl⟩ := nI_of n
      by_cases b : s < i
      · exact nx_truncB hf z ex hi b (ny_truncB hf zy es hi b ⟨rfl, R⟩)
      · exact nx_trunc1 hf z ex hs (by omega) (ny_trunc1 hf zy es hs (by omega) ⟨rfl, nf_Rsize R hf (by omega)⟩)
theorem i_vc_copy {k : Nat} {u : SX} {v : SY} (I : i_Rel k u v) (hk : k + 4 ≤ 2048) (v1 : Int32) (v2 : Int32) : wpX_copy (fun r u' => wpY_copy (fun r' v' => r' = r ∧ i_Rel (k + 4) u' v') v v1 v2) u v1 v2 := by
  obtain ⟨eN, sN, wN, eL, sL, wL, yx⟩ := u
  obtain ⟨th, sz, wd, yy⟩ := v
  have R : nf_R eN sN wN eL sL wL yx th sz wd yy := I
  have bad : ∀ {x y : Int32}, ((x < 0 ∨ nI 6 ≤ x) ∨ ((∃ f, f < 6 ∧ x = nI f) ∧ (y < 0 ∨ nI 6 ≤ y))) → wpX_copy (fun r u' => wpY_copy (fun r' v' => r' = r ∧ i_Rel (k + 4) u' v') (th, sz, wd, yy) x y) (eN, sN, wN, eL, sL, wL, yx) x y := fun h => nx_copy0 h (ny_copy0 h ⟨rfl, R⟩)
  rcases pk_ix v1 (n := 6) (by decide) with h | h | ⟨f, hf, rfl⟩
  · exact bad (Or.inl (Or.inl h))
  · exact bad (Or.inl (Or.inr h))
  · rcases pk_ix v2 (n := 6) (by decide) with h | h | ⟨g, hg, rfl⟩
    · exact bad (Or.inr ⟨⟨f, hf, rfl⟩, Or.inl h⟩)
    · exact bad (Or.inr ⟨⟨f, hf, rfl⟩, Or.inr h⟩)
    · by_cases zf : th f = 0
      · exact nx_copy3 hf hg (Or.inl ((R.1 f hf).trans zf)) (ny_copy3 hf hg (Or.inl zf) ⟨rfl, R⟩)
      · by_cases zg : th g = 0
        · exact nx_copy3 hf hg (Or.inr ((R.1 g hg).trans zg)) (ny_copy3 hf hg (Or.inr zg) ⟨rfl, R⟩)
        · exact nx_copy1 hf hg (fun q => zf ((R.1 f hf).symm.trans q)) (fun q => zg ((R.1 g hg).symm.trans q)) (ny_copy1 hf hg zf zg ⟨(R.2.2.1 g hg).symm, nf_Rcopy R hf hg⟩)
theorem i_vc_fsync {k : Nat} {u : SX} {v : SY} (I : i_Rel k u v) (hk : k + 4 ≤ 2048) (v1 : Int32) : wpX_fsync (fun r u' => wpY_fsync (fun r' v' => r' = r ∧ i_Rel (k + 4) u' v') v v1) u v1 := by
  obtain ⟨eN, sN, wN, eL, sL, wL, yx⟩ := u
  obtain ⟨th, sz, wd, yy⟩ := v
  have R : nf_R eN sN wN eL sL wL yx th sz wd yy := I
  rcases nf_rfD eN v1 with ⟨r, h⟩ | ⟨f, hf, rfl, z⟩
  · exact nx_fsyncR h (ny_fsyncR (nf_rfC h R.1) ⟨rfl, R⟩)
  · have zy : ¬ th f = 0 := fun q => z ((R.1 f hf).trans q)
    have hB : ∀ i, i < 6 → nf_B (th i) := fun i hi => R.2.2.2.2.2.2.1 i (by omega)
    have hE : ∀ i, i < 6 → nf_B (eN i) := fun i hi => by
      rw [R.1 i hi]
      exact hB i hi
    have ey : yx f = yy f := R.2.2.2.2.2.2.2.2 f hf zy
    by_cases y : yy f = 0
    · have e1 : eN f = 1 := (hE f hf).resolve_left z
      refine nx_fsync0 hf z (hE f hf) (ey.trans y) (ny_fsync0 hf zy y ⟨rfl, ?_⟩)
      have q := nf_Rlast R hf e1.symm
      rw [e1]
      exact q
    · exact nx_fsync1 hf z hE (fun q => y (ey.symm.trans q)) (ny_fsync1 hf zy hB y ⟨rfl, nf_Rsync R⟩)
theorem i_vc_sync {k : Nat} {u : SX} {v : SY} (I : i_Rel k u v) (hk : k + 4 ≤ 2048) : wpX_sync (fun r u' => wpY_sync (fun r' v' => r' = r ∧ i_Rel (k + 4) u' v') v) u := by
  obtain ⟨eN, sN, wN, eL, sL, wL, yx⟩ := u
  obtain ⟨th, sz, wd, yy⟩ := v
  have R : nf_R eN sN wN eL sL wL yx th sz wd yy := I
  have hB : ∀ i, i < 6 → nf_B (th i) := fun i hi => R.2.2.2.2.2.2.1 i (by omega)
  have hE : ∀ i, i < 6 → nf_B (eN i) := fun i hi => by
    rw [R.1 i hi]
    exact hB i hi
  exact nx_sync hE (ny_sync hB ⟨(nf_cntC 6 (nf_Rsync R).1).symm, nf_Rsync R⟩)
theorem i_vc_crash {k : Nat} {u : SX} {v : SY} (I : i_Rel k u v) (hk : k + 4 ≤ 2048) : wpX_crash (fun r u' => wpY_crash (fun r' v' => r' = r ∧ i_Rel (k + 4) u' v') v) u := by
  obtain ⟨eN, sN, wN, eL, sL, wL, yx⟩ := u
  obtain ⟨th, sz, wd, yy⟩ := v
  have R : nf_R eN sN wN eL sL wL yx th sz wd yy := I
  have hE : ∀ i, i < 6 → nf_B (eL i) := fun i hi => by
    rw [R.2.1 i hi]
    exact R.2.2.2.2.2.2.1 (6 + i) (by omega)
  exact nx_crash hE (ny_crash R.2.2.2.2.2.2.1 ⟨(nf_cntC 6 (nf_Rcrash R).1).symm, nf_Rcrash R⟩)
theorem i_vc_exists {k : Nat} {u : SX} {v : SY} (I : i_Rel k u v) (hk : k + 4 ≤ 2048) (v1 : Int32) : wpX_exists (fun r => wpY_exists (fun r' => r' = r ∧ i_Rel (k + 4) u v) v v1) u v1 := by
  obtain ⟨eN, sN, wN, eL, sL, wL, yx⟩ := u
  obtain ⟨th, sz, wd, yy⟩ := v
  have R : nf_R eN sN wN eL sL wL yx th sz wd yy := I
  rcases nf_rfD eN v1 with ⟨r, h⟩ | ⟨f, hf, rfl, z⟩
  · exact nx_existsR h (ny_existsR (nf_rfC h R.1) ⟨rfl, R⟩)
  · exact nx_exists1 hf z (ny_exists1 hf (fun q => z ((R.1 f hf).trans q)) ⟨rfl, R⟩)
theorem i_vc_size {k : Nat} {u : SX} {v : SY} (I : i_Rel k u v) (hk : k + 4 ≤ 2048) (v1 : Int32) : wpX_size (fun r => wpY_size (fun r' => r' = r ∧ i_Rel (k + 4) u v) v v1) u v1 := by
  obtain ⟨eN, sN, wN, eL, sL, wL, yx⟩ := u
  obtain ⟨th, sz, wd, yy⟩ := v
  have R : nf_R eN sN wN eL sL wL yx th sz wd yy := I
  rcases nf_rfD eN v1 with ⟨r, h⟩ | ⟨f, hf, rfl, z⟩
  · exact nx_sizeR h (ny_sizeR (nf_rfC h R.1) ⟨rfl, R⟩)
  · exact nx_size1 hf z (ny_size1 hf (fun q => z ((R.1 f hf).trans q)) ⟨(R.2.2.1 f hf).symm, R⟩)
theorem i_vc_read {k : Nat} {u : SX} {v : SY} (I : i_Rel k u v) (hk : k + 4 ≤ 2048) (v1 : Int32) (v2 : Int32) : wpX_read (fun r => wpY_read (fun r' => r' = r ∧ i_Rel (k + 4) u v) v v1 v2) u v1 v2 := by
  obtain ⟨eN, sN, wN, eL, sL, wL, yx⟩ := u
  obtain ⟨th, sz, wd, yy⟩ := v
  have R : nf_R eN sN wN eL sL wL yx th sz wd yy := I
  rcases nf_rfD eN v1 with ⟨r, h⟩ | ⟨f, hf, rfl, z⟩
  · exact nx_readR h (ny_readR (nf_rfC h R.1) ⟨rfl, R⟩)
  · have zy : ¬ th f = 0 := fun q => z ((R.1 f hf).trans q)
    obtain ⟨s, hs, es⟩ := R.2.2.2.2.2.2.2.1 f (by omega)
    have ex : sN f = nI s := (R.2.2.1 f hf).trans es
    by_cases n : v2 < 0
    · exact nx_readN hf z n (ny_readN hf zy n ⟨rfl, R⟩)
    · obtain ⟨i, hi, rfl⟩ := nI_of n
      by_cases b : i < s
      · exact nx_read1 hf z ex hs b (ny_read1 hf zy es hs b ⟨(R.2.2.2.2.1 (4 * f + i) (by omega)).symm, R⟩)
      · exact nx_readB hf z ex hi (by omega) (ny_readB hf zy es hi (by omega) ⟨rfl, R⟩)
theorem i_vc_unsafe {k : Nat} {u : SX} {v : SY} (I : i_Rel k u v) (hk : k + 4 ≤ 2048) : wpX_unsafe (fun r => wpY_unsafe (fun r' => r' = r ∧ i_Rel (k + 4) u v) v) u := by
  obtain ⟨eN, sN, wN, eL, sL, wL, yx⟩ := u
  obtain ⟨th, sz, wd, yy⟩ := v
  have R : nf_R eN sN wN eL sL wL yx th sz wd yy := I
  obtain ⟨r, hX, hY⟩ := nu_loop R 6 0 0 rfl
  rw [nI_0] at hX hY
  exact ⟨_, hX _ ⟨_, hY _ ⟨rfl, R⟩⟩⟩
theorem i_vc_digest {k : Nat} {u : SX} {v : SY} (I : i_Rel k u v) (hk : k + 4 ≤ 2048) : wpX_digest (fun r => wpY_digest (fun r' => r' = r ∧ i_Rel (k + 4) u v) v) u := by
  obtain ⟨eN, sN, wN, eL, sL, wL, yx⟩ := u
  obtain ⟨th, sz, wd, yy⟩ := v
  have R : nf_R eN sN wN eL sL wL yx th sz wd yy := I
  have hS : ∀ i, i < 6 → nf_S (sz i) := fun i hi => R.2.2.2.2.2.2.2.1 i (by omega)
  have hX : ∀ i, i < 6 → nf_S (sN i) := fun i hi => by
    rw [R.2.2.1 i hi]
    exact hS i hi
  exact nx_digest hX (ny_digest hS ⟨(nf_dgC 6 (Nat.le_refl 6) R.1 R.2.2.1 R.2.2.2.2.1 hS).symm, R⟩)
end
