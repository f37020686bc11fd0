theorem pk_us {f : Nat → Int32} {k : Nat} {x : Int32} : upd f k x k = x := if_pos rfl
theorem pk_un {f : Nat → Int32} {k j : Nat} {x : Int32} (h : j ≠ k) : upd f k x j = f j := if_neg h
theorem pk_mul (a b : Nat) : nI a * nI b = nI (a * b) := (Int32.ofNat_mul a b).symm
theorem pk_ix (x : Int32) {n : Nat} (hn : n < 2 ^ 31) : x < 0 ∨ nI n ≤ x ∨ ∃ j : Nat, j < n ∧ x = nI j := by
  by_cases h : x < 0
  · exact Or.inl h
  · obtain ⟨j, hj, rfl⟩ := nI_of h
    by_cases h2 : j < n
    · exact Or.inr (Or.inr ⟨j, h2, rfl⟩)
    · exact Or.inr (Or.inl (nI_le (by omega) hj))
theorem pk_le {x y : Int32} {A B : Prop} (a b : Nat) (f : a ≤ b → A) (g : b < a → B) (hx : x = nI a := by rfl) (hy : y = nI b := by rfl) (ha : a < 2 ^ 31 := by omega) (hb : b < 2 ^ 31 := by omega) : (x ≤ y → A) ∧ (¬ x ≤ y → B) := by
  subst hx hy
  rw [nI_leI ha hb]
  exact ⟨f, fun z => g (by omega)⟩
theorem pk_lt {x y : Int32} {A B : Prop} (a b : Nat) (f : a < b → A) (g : b ≤ a → B) (hx : x = nI a := by rfl) (hy : y = nI b := by rfl) (ha : a < 2 ^ 31 := by omega) (hb : b < 2 ^ 31 := by omega) : (x < y → A) ∧ (¬ x < y → B) := by
  subst hx hy
  rw [nI_ltI ha hb]
  exact ⟨f, fun z => g (by omega)⟩
theorem pk_eq {x y : Int32} {A B : Prop} (a b : Nat) (f : a = b → A) (g : a ≠ b → B) (hx : x = nI a := by rfl) (hy : y = nI b := by rfl) (ha : a < 2 ^ 31 := by omega) (hb : b < 2 ^ 31 := by omega) : (x = y → A) ∧ (¬ x = y → B) := by
  subst hx hy
  rw [nI_eq ha hb]
  exact ⟨f, g⟩
theorem pk_in {x : Int32} (n N : Nat) (h : n < N) (hx : x = nI n := by rfl) (hN : N < 2 ^ 31 := by omega) : vp_in x N := by
  subst hx
  exact vp_in_nI h hN
theorem pk_cl {x : Int32} (n : Nat) (hx : x = nI n := by rfl) (h : n < 2 ^ 31 := by omega) : x.toNatClampNeg = n := by
  subst hx
  exact nI_clamp h
theorem nf_b0 : vp_nar .boolean 0 = 0 := by decide
theorem nf_b1 : vp_nar .boolean 1 = 1 := by decide
def nf_B (z : Int32) : Prop := z = 0 ∨ z = 1
def nf_S (z : Int32) : Prop := ∃ s : Nat, s ≤ 4 ∧ z = nI s
theorem nf_B0 : nf_B 0 := Or.inl rfl
theorem nf_B1 : nf_B 1 := Or.inr rfl
theorem nf_bv {z : Int32} (h : nf_B z) : vp_nar .boolean z = z := by
  rcases h with rfl | rfl
  · exact nf_b0
  · exact nf_b1
theorem nf_nb {z : Int32} (h : nf_B z) : narrow .boolean (.int z) = .int z := by
  rcases h with rfl | rfl <;> rfl
theorem nf_fb {z : Int32} (h : nf_B z) : fits .boolean (.int z) = true := by
  rcases h with rfl | rfl <;> rfl
theorem nf_4 : (4 : Int32) = nI 4 := by decide +kernel
theorem nf_6 : (6 : Int32) = nI 6 := by decide +kernel
theorem nf_5 : (5 : Int32) = nI 5 := by decide +kernel
theorem nf_24 : (24 : Int32) = nI 24 := by decide +kernel
theorem nf_xa (f i : Nat) : nI f * 4 + nI i = nI (4 * f + i) := by
  rw [nf_4, pk_mul, nI_add]
  exact congrArg nI (by omega)
theorem nf_ya (f i : Nat) : 4 * nI f + nI i = nI (4 * f + i) := by
  rw [nf_4, pk_mul, nI_add]
theorem nf_yb (f i : Nat) : 24 + 4 * nI f + nI i = nI (24 + (4 * f + i)) := by
  rw [nf_4, nf_24, pk_mul, nI_add, nI_add]
  exact congrArg nI (by omega)
theorem nf_y6 (f : Nat) : 6 + nI f = nI (6 + f) := by
  rw [nf_6, nI_add]
/-- a store at one place keeps a pointwise equation -/
theorem nf_uc {a b : Nat → Int32} {k i : Nat} {x y : Int32} (h : a i = b i) (e : x = y) : upd a k x i = upd b k y i := by
  show (if i = k then x else a i) = (if i = k then y else b i)
  rw [h, e]
theorem nf_uP {P : Int32 → Prop} {a : Nat → Int32} {k n : Nat} {x : Int32} (h : ∀ i, i < n → P (a i)) (hx : P x) : ∀ i, i < n → P (upd a k x i) := by
  intro i hi
  by_cases e : i = k
  · subst e
    rw [pk_us]
    exact hx
  · rw [pk_un e]
    exact h i hi
/-- b with n places from q on taken from a, from p on -/
def nf_cp (a b : Nat → Int32) (p q n : Nat) : Nat → Int32 := fun j => if q ≤ j ∧ j < q + n then a (p + (j - q)) else b j
theorem nf_ci {a b : Nat → Int32} {p q n j : Nat} (h1 : q ≤ j) (h2 : j < q + n) : nf_cp a b p q n j = a (p + (j - q)) := if_pos ⟨h1, h2⟩
theorem nf_co {a b : Nat → Int32} {p q n j : Nat} (h : j < q ∨ q + n ≤ j) : nf_cp a b p q n j = b j := if_neg (by omega)
theorem nf_cz {a b : Nat → Int32} {p q : Nat} : nf_cp a b p q 0 = b := by
  funext j
  exact nf_co (by omega)
theorem nf_c1 {a b : Nat → Int32} {p q n k : Nat} {x : Int32} (hk : k = q + n) (hx : x = a (p + n)) : upd (nf_cp a b p q n) k x = nf_cp a b p q (n + 1) := by
  subst hk
  funext j
  by_cases e : j = q + n
  · subst e
    rw [pk_us, nf_ci (by omega) (by omega), hx]
    exact congrArg a (by omega)
  · rw [pk_un e]
    by_cases h : q ≤ j ∧ j < q + n
    · rw [nf_ci h.1 h.2, nf_ci h.1 (by omega)]
    · rw [nf_co (by omega), nf_co (by omega)]
theorem nf_cc {a a' b : Nat → Int32} {p q p' q' n m : Nat} (hp : p' = p + n) (hq : q' = q + n) (ha : ∀ i, i < m → a' (p + n + i) = a (p + n + i)) : nf_cp a' (nf_cp a b p q n) p' q' m = nf_cp a b p q (n + m) := by
  subst hp hq
  funext j
  by_cases h : q + n ≤ j ∧ j < q + n + m
  · rw [nf_ci h.1 h.2, nf_ci (by omega) (by omega), ha (j - (q + n)) (by omega)]
    exact congrArg a (by omega)
  · rw [nf_co (by omega)]
    by_cases h2 : q ≤ j ∧ j < q + n
    · rw [nf_ci h2.1 h2.2, nf_ci (by omega) (by omega)]
    · rw [nf_co (by omega), nf_co (by omega)]
theorem nf_cP {P : Int32 → Prop} {a b : Nat → Int32} {p q k n : Nat} (h : ∀ i, i < n → P (b i)) (ha : ∀ i, i < k → P (a (p + i))) : ∀ i, i < n → P (nf_cp a b p q k i) := by
  intro i hi
  by_cases e : q ≤ i ∧ i < q + k
  · rw [nf_ci e.1 e.2]
    exact ha _ (by omega)
  · rw [nf_co (by omega)]
    exact h i hi
/-- how many of the first n cells are not 0 -/
def nf_cnt (a : Nat → Int32) : Nat → Int32
  | 0 => 0
  | n + 1 => if a n = 0 then nf_cnt a n else nf_cnt a n + 1
theorem nf_cntC {a b : Nat → Int32} : ∀ n : Nat, (∀ i, i < n → a i = b i) → nf_cnt a n = nf_cnt b n := by
  intro n
  induction n with
  | zero => intro _; rfl
  | succ n ih =>
    intro h
    show (if a n = 0 then nf_cnt a n else nf_cnt a n + 1) = (if b n = 0 then nf_cnt b n else nf_cnt b n + 1)
    rw [ih (fun i hi => h i (by omega)), h n (by omega)]
theorem nf_cnt0 {a : Nat → Int32} {n : Nat} (h : a n = 0) : nf_cnt a (n + 1) = nf_cnt a n := if_pos h
theorem nf_cnt1 {a : Nat → Int32} {n : Nat} (h : ¬ a n = 0) : nf_cnt a (n + 1) = nf_cnt a n + 1 := if_neg h
/-- the words' part of the digest of file f, its first n words -/
def nf_pw (w : Nat → Int32) (f : Nat) : Nat → Int32
  | 0 => 0
  | i + 1 => nf_pw w f i + (8 * nI f + nI i + 1) * w (4 * f + i)
/-- the digest of the first n files -/
def nf_dg (th sz w : Nat → Int32) : Nat → Int32
  | 0 => 0
  | f + 1 => if th f = 0 then nf_dg th sz w f else nf_dg th sz w f + (1000 * (nI f + 1) * (sz f + 1) + nf_pw w f (sz f).toNatClampNeg)
theorem nf_dg0 {th sz w : Nat → Int32} {f : Nat} (h : th f = 0) : nf_dg th sz w (f + 1) = nf_dg th sz w f := if_pos h
theorem nf_dg1 {th sz w : Nat → Int32} {f : Nat} (h : ¬ th f = 0) : nf_dg th sz w (f + 1) = nf_dg th sz w f + (1000 * (nI f + 1) * (sz f + 1) + nf_pw w f (sz f).toNatClampNeg) := if_neg h
theorem nf_pwC {w w' : Nat → Int32} {f : Nat} : ∀ n : Nat, (∀ i, i < n → w (4 * f + i) = w' (4 * f + i)) → nf_pw w f n = nf_pw w' f n := by
  intro n
  induction n with
  | zero => intro _; rfl
  | succ n ih =>
    intro h
    show nf_pw w f n + (8 * nI f + nI n + 1) * w (4 * f + n) = nf_pw w' f n + (8 * nI f + nI n + 1) * w' (4 * f + n)
    rw [ih (fun i hi => h i (by omega)), h n (by omega)]
theorem nf_dgC {th sz w th' sz' w' : Nat → Int32} : ∀ n : Nat, n ≤ 6 → (∀ i, i < 6 → th i = th' i) → (∀ i, i < 6 → sz i = sz' i) → (∀ j, j < 24 → w j = w' j) → (∀ i, i < 6 → nf_S (sz' i)) → nf_dg th sz w n = nf_dg th' sz' w' n := by
  intro n
  induction n with
  | zero => intro _ _ _ _ _; rfl
  | succ n ih =>
    intro hn h1 h2 h3 h4
    have e := ih (by omega) h1 h2 h3 h4
    obtain ⟨s, hs, es⟩ := h4 n (by omega)
    have ec : (sz' n).toNatClampNeg = s := by
      rw [es]
      exact nI_clamp (by omega)
    by_cases z : th n = 0
    · rw [nf_dg0 z, nf_dg0 ((h1 n (by omega)).symm.trans z), e]
    · rw [nf_dg1 z, nf_dg1 (fun q => z ((h1 n (by omega)).trans q)), e, h2 n (by omega), ec, nf_pwC s (fun i hi => h3 (4 * n + i) (by omega))]
/-- the words' part as the reference sums it: a 0 past the size -/
def nf_qw (w : Nat → Int32) (f s : Nat) : Nat → Int32
  | 0 => 0
  | i + 1 => nf_qw w f s i + (8 * nI f + nI i + 1) * (if i < s then w (4 * f + i) else 0)
theorem nf_qwL {w : Nat → Int32} {f s : Nat} : ∀ n : Nat, n ≤ s → nf_qw w f s n = nf_pw w f n := by
  intro n
  induction n with
  | zero => intro _; rfl
  | succ n ih =>
    intro h
    show nf_qw w f s n + (8 * nI f + nI n + 1) * (if n < s then w (4 * f + n) else 0) = nf_pw w f n + (8 * nI f + nI n + 1) * w (4 * f + n)
    rw [ih (by omega), if_pos (show n < s by omega)]
theorem nf_qwR {w : Nat → Int32} {f s : Nat} : ∀ d : Nat, nf_qw w f s (s + d) = nf_pw w f s := by
  intro d
  induction d with
  | zero => exact nf_qwL s (Nat.le_refl s)
  | succ d ih =>
    show nf_qw w f s (s + d) + (8 * nI f + nI (s + d) + 1) * (if s + d < s then w (4 * f + (s + d)) else 0) = nf_pw w f s
    rw [ih, if_neg (show ¬ s + d < s by omega), Int32.mul_zero, Int32.add_zero]
theorem nf_qw4 {w : Nat → Int32} {f s : Nat} (h : s ≤ 4) : nf_qw w f s 4 = nf_pw w f s := by
  have e := nf_qwR (w := w) (f := f) (s := s) (4 - s)
  rw [show s + (4 - s) = 4 by omega] at e
  exact e
theorem nf_c {f : Nat} (h : f < 64) : (nI f).toNatClampNeg = f := nI_clamp (by omega)
theorem nf_v6 {f : Nat} (h : f < 6) : vp_in (nI f) 6 := vp_in_nI h (by omega)
theorem nf_v12 {f : Nat} (h : f < 12) : vp_in (nI f) 12 := vp_in_nI h (by omega)
theorem nf_v24 {f : Nat} (h : f < 24) : vp_in (nI f) 24 := vp_in_nI h (by omega)
theorem nf_v48 {f : Nat} (h : f < 48) : vp_in (nI f) 48 := vp_in_nI h (by omega)
theorem nf_10 : ¬ (1 : Int32) = 0 := by decide
theorem nf_g4 : (4 : Int32) ≤ nI 4 := by decide +kernel
theorem nf_g6 : (6 : Int32) ≤ nI 6 := by decide +kernel
theorem nf_l4 {i : Nat} (h : i < 4) : ¬ (4 : Int32) ≤ nI i := by
  rw [nf_4]
  exact nI_ge h (by omega)
theorem nf_l6 {i : Nat} (h : i < 6) : ¬ (6 : Int32) ≤ nI i := by
  rw [nf_6]
  exact nI_ge h (by omega)
theorem nf_us {a : Nat → Int32} {k : Nat} : upd a k (a k) = a := by
  funext j
  by_cases e : j = k
  · subst e
    rw [pk_us]
  · rw [pk_un e]
/-- what refuses a call of one file: a bad number, or a file that is not there -/
def nf_rf (a : Nat → Int32) (x r : Int32) : Prop := ((x < 0 ∨ nI 6 ≤ x) ∧ r = -1) ∨ (∃ f, f < 6 ∧ x = nI f ∧ a f = 0 ∧ r = -3)
theorem nf_rfn {a : Nat → Int32} {x r : Int32} (h : nf_rf a x r) : ¬ r = 0 := by
  rcases h with ⟨_, rfl⟩ | ⟨f, _, _, _, rfl⟩ <;> decide
theorem nf_rfm {a : Nat → Int32} {x r : Int32} (h : nf_rf a x r) : ¬ 0 ≤ r := by
  rcases h with ⟨_, rfl⟩ | ⟨f, _, _, _, rfl⟩ <;> decide
theorem nf_rfC {a b : Nat → Int32} {x r : Int32} (h : nf_rf a x r) (e : ∀ i, i < 6 → a i = b i) : nf_rf b x r := by
  rcases h with h | ⟨f, hf, ex, z, er⟩
  · exact Or.inl h
  · exact Or.inr ⟨f, hf, ex, (e f hf).symm.trans z, er⟩
theorem nf_rfD (a : Nat → Int32) (x : Int32) : (∃ r, nf_rf a x r) ∨ ∃ f, f < 6 ∧ x = nI f ∧ ¬ a f = 0 := by
  rcases pk_ix x (n := 6) (by decide) with h | h | ⟨f, hf, ex⟩
  · exact Or.inl ⟨-1, Or.inl ⟨Or.inl h, rfl⟩⟩
  · exact Or.inl ⟨-1, Or.inl ⟨Or.inr h, rfl⟩⟩
  · by_cases z : a f = 0
    · exact Or.inl ⟨-3, Or.inr ⟨f, hf, ex, z, rfl⟩⟩
    · exact Or.inr ⟨f, hf, ex, z⟩
