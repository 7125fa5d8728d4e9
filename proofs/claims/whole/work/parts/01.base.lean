theorem pk_us {f : Nat → Int32} {k : Nat} {x : Int32} : upd f k x k = x := if_pos rfl
theorem pk_un {f : Nat → Int32} {k j : Nat} {x : Int32} (h : j ≠ k) : upd f k x j = f j := if_neg h
theorem pk_sub {a b : Nat} (h : b ≤ a) : nI a - nI b = nI (a - b) := by
  obtain ⟨c, rfl⟩ : ∃ c, a = c + b := ⟨a - b, by omega⟩
  rw [← nI_add, Int32.add_sub_cancel, Nat.add_sub_cancel]
theorem pk_m1 (n : Nat) : nI (n + 1) + (-1) = nI n := by
  rw [← nI_1, Int32.add_assoc, show (1 : Int32) + (-1) = 0 from rfl, Int32.add_zero]
theorem pk_mul (a b : Nat) : nI a * nI b = nI (a * b) := (Int32.ofNat_mul a b).symm
theorem pk_ix (x : Int32) {n : Nat} (hn : n < 2 ^ 31) : x < 0 ∨ nI n ≤ x ∨ ∃ j : Nat, j < n ∧ x = nI j := by
  by_cases h : x < 0
  · exact Or.inl h
  · obtain ⟨j, hj, rfl⟩ := nI_of h
    by_cases h2 : j < n
    · exact Or.inr (Or.inr ⟨j, h2, rfl⟩)
    · exact Or.inr (Or.inl (nI_le (by omega) hj))
theorem pk_le {x y : Int32} {A B : Prop} (a b : Nat) (f : a ≤ b → A) (g : b < a → B) (hx : x = nI a := by rfl) (hy : y = nI b := by rfl) (ha : a < 2 ^ 31 := by omega) (hb : b < 2 ^ 31 := by omega) : (x ≤ y → A) ∧ (¬ x ≤ y → B) := by
  subst hx hy
  rw [nI_leI ha hb]
  exact ⟨f, fun z => g (by omega)⟩
theorem pk_lt {x y : Int32} {A B : Prop} (a b : Nat) (f : a < b → A) (g : b ≤ a → B) (hx : x = nI a := by rfl) (hy : y = nI b := by rfl) (ha : a < 2 ^ 31 := by omega) (hb : b < 2 ^ 31 := by omega) : (x < y → A) ∧ (¬ x < y → B) := by
  subst hx hy
  rw [nI_ltI ha hb]
  exact ⟨f, fun z => g (by omega)⟩
theorem pk_eq {x y : Int32} {A B : Prop} (a b : Nat) (f : a = b → A) (g : a ≠ b → B) (hx : x = nI a := by rfl) (hy : y = nI b := by rfl) (ha : a < 2 ^ 31 := by omega) (hb : b < 2 ^ 31 := by omega) : (x = y → A) ∧ (¬ x = y → B) := by
  subst hx hy
  rw [nI_eq ha hb]
  exact ⟨f, g⟩
theorem pk_in {x : Int32} (n N : Nat) (h : n < N) (hx : x = nI n := by rfl) (hN : N < 2 ^ 31 := by omega) : vp_in x N := by
  subst hx
  exact vp_in_nI h hN
theorem pk_cl {x : Int32} (n : Nat) (hx : x = nI n := by rfl) (h : n < 2 ^ 31 := by omega) : x.toNatClampNeg = n := by
  subst hx
  exact nI_clamp h
theorem pk_least (P : Nat → Prop) (h : ∃ k, P k) : ∃ k, P k ∧ ∀ j, j < k → ¬ P j := by
  obtain ⟨k, hk⟩ := h
  induction k using Nat.strongRecOn with
  | ind k ih =>
    by_cases e : ∃ j, j < k ∧ P j
    · obtain ⟨j, hj, pj⟩ := e
      exact ih j hj pj
    · exact ⟨k, hk, fun j hj pj => e ⟨j, hj, pj⟩⟩
/-- a truth value as the program holds it -/
def tq_01 (b : Bool) : Int32 := if b = true then 1 else 0
theorem tq_br {b : Bool} {A B : Prop} (f : b = false → A) (t : b = true → B) : (tq_01 b = 0 → A) ∧ (¬ tq_01 b = 0 → B) := by
  cases b
  · exact br_t rfl (f rfl)
  · exact br_f (by decide) (t rfl)
theorem tq_m1 : (-1 : Int32) < 0 := by decide
theorem tq_neg {x : Int32} (h : x < 0) (n : Nat) (hn : n < 2 ^ 31) : ¬ x = nI n := fun e => nI_pos hn (e ▸ h)
/-- the code of an entity: 0 is 'none', e + 1 is the change e -/
def tq_b (e : Nat) : Int32 := if e = 0 then -1 else nI (e - 1)
theorem tq_b0 : tq_b 0 = -1 := rfl
theorem tq_bp {e : Nat} (h : 1 ≤ e) : tq_b e = nI (e - 1) := if_neg (by omega)
theorem tq_bs (c : Nat) : tq_b (c + 1) = nI c := tq_bp (by omega)
theorem tq_bneg {e : Nat} (h : e < 2 ^ 31) : tq_b e < 0 ↔ e = 0 := by
  constructor
  · intro z
    by_cases h0 : e = 0
    · exact h0
    · rw [tq_bp (by omega)] at z
      exact absurd z (nI_pos (by omega))
  · intro z
    rw [z]
    exact tq_m1
theorem tq_binj {d e : Nat} (hd : d < 2 ^ 31) (he : e < 2 ^ 31) : tq_b d = tq_b e ↔ d = e := by
  constructor
  · intro z
    by_cases h0 : d = 0
    · have := (tq_bneg hd).mpr h0
      rw [z] at this
      exact h0.trans ((tq_bneg he).mp this).symm
    · by_cases h1 : e = 0
      · have := (tq_bneg he).mpr h1
        rw [← z] at this
        exact absurd ((tq_bneg hd).mp this) h0
      · rw [tq_bp (by omega), tq_bp (by omega), nI_eq (by omega) (by omega)] at z
        omega
  · exact fun z => congrArg tq_b z
theorem tq_be {d e : Nat} {A B : Prop} {x y : Int32} (hd : d < 2 ^ 31) (he : e < 2 ^ 31) (hx : x = tq_b d) (hy : y = tq_b e) (f : d = e → A) (g : d ≠ e → B) : (x = y → A) ∧ (¬ x = y → B) := by
  subst hx hy
  rw [tq_binj hd he]
  exact ⟨f, g⟩
theorem tq_bl {e : Nat} {A B : Prop} {x : Int32} (he : e < 2 ^ 31) (hx : x = tq_b e) (f : e = 0 → A) (g : 1 ≤ e → B) : (x < 0 → A) ∧ (¬ x < 0 → B) := by
  subst hx
  rw [tq_bneg he]
  exact ⟨f, fun z => g (by omega)⟩
theorem tq_r3 {r o : Nat} : nI r * 3 + nI o = nI (r * 3 + o) := by
  rw [show (3 : Int32) = nI 3 from rfl, pk_mul, nI_add]
theorem tq_r48 {r c : Nat} : 48 * nI r + nI c = nI (48 * r + c) := by
  rw [show (48 : Int32) = nI 48 from rfl, pk_mul, nI_add]
theorem tq_bo0 : vp_nar .boolean 0 = tq_01 false := by decide +kernel
theorem tq_bo1 : vp_nar .boolean 1 = tq_01 true := by decide +kernel
/-! counting: how many of 1 .. n -/
def tq_c (P : Nat → Bool) : Nat → Nat
  | 0 => 0
  | n + 1 => tq_c P n + (if P (n + 1) = true then 1 else 0)
theorem tq_cT {P : Nat → Bool} {n : Nat} (h : P (n + 1) = true) : tq_c P (n + 1) = tq_c P n + 1 := by simp [tq_c, h]
theorem tq_cF {P : Nat → Bool} {n : Nat} (h : P (n + 1) = false) : tq_c P (n + 1) = tq_c P n := by simp [tq_c, h]
theorem tq_cle (P : Nat → Bool) (n : Nat) : tq_c P n ≤ n := by
  induction n with
  | zero => exact Nat.le_refl 0
  | succ n ih =>
    cases h : P (n + 1)
    · rw [tq_cF h]; omega
    · rw [tq_cT h]; omega
theorem tq_cS (P : Nat → Bool) (n : Nat) : tq_c P n ≤ tq_c P (n + 1) := by
  cases h : P (n + 1)
  · rw [tq_cF h]; omega
  · rw [tq_cT h]; omega
theorem tq_cmono (P : Nat → Bool) {m n : Nat} (h : m ≤ n) : tq_c P m ≤ tq_c P n := by
  induction n with
  | zero => rw [show m = 0 by omega]; omega
  | succ n ih =>
    by_cases e : m = n + 1
    · rw [e]; omega
    · exact Nat.le_trans (ih (by omega)) (tq_cS P n)
theorem tq_ccong {P Q : Nat → Bool} (n : Nat) (h : ∀ e, 1 ≤ e → e ≤ n → P e = Q e) : tq_c P n = tq_c Q n := by
  induction n with
  | zero => rfl
  | succ n ih =>
    have a := ih (fun e h1 h2 => h e h1 (by omega))
    have b := h (n + 1) (by omega) (by omega)
    show tq_c P n + (if P (n + 1) = true then 1 else 0) = tq_c Q n + (if Q (n + 1) = true then 1 else 0)
    rw [a, b]
theorem tq_cgap {P : Nat → Bool} {m : Nat} (n : Nat) (hm : m ≤ n) (h : ∀ e, m < e → e ≤ n → P e = false) : tq_c P n = tq_c P m := by
  induction n with
  | zero => rw [show m = 0 by omega]
  | succ n ih =>
    by_cases e : m = n + 1
    · rw [e]
    · rw [tq_cF (h (n + 1) (by omega) (by omega))]
      exact ih (by omega) (fun e h1 h2 => h e h1 (by omega))
theorem tq_cstep {P : Nat → Bool} {e : Nat} (h1 : 1 ≤ e) (hp : P e = true) : tq_c P e = tq_c P (e - 1) + 1 := by
  obtain ⟨k, rfl⟩ : ∃ k, e = k + 1 := ⟨e - 1, by omega⟩
  exact tq_cT hp
theorem tq_cpos {P : Nat → Bool} {e n : Nat} (h1 : 1 ≤ e) (hn : e ≤ n) (hp : P e = true) : tq_c P (e - 1) + 1 ≤ tq_c P n := by
  have := tq_cstep h1 hp
  have := tq_cmono P hn
  omega
theorem tq_cex {P : Nat → Bool} {n q : Nat} (h : q < tq_c P n) : ∃ e, 1 ≤ e ∧ e ≤ n ∧ P e = true ∧ tq_c P (e - 1) = q := by
  induction n with
  | zero => exact absurd h (Nat.not_lt_zero q)
  | succ n ih =>
    cases hp : P (n + 1)
    · rw [tq_cF hp] at h
      obtain ⟨e, a, b, c, d⟩ := ih h
      exact ⟨e, a, by omega, c, d⟩
    · rw [tq_cT hp] at h
      by_cases z : q < tq_c P n
      · obtain ⟨e, a, b, c, d⟩ := ih z
        exact ⟨e, a, by omega, c, d⟩
      · exact ⟨n + 1, by omega, by omega, hp, by rw [Nat.add_sub_cancel]; omega⟩
theorem tq_c0 {P : Nat → Bool} {n : Nat} (h : ∀ e, 1 ≤ e → e ≤ n → P e = false) : tq_c P n = 0 :=
  tq_cgap n (Nat.zero_le n) (fun e a b => h e a b)
theorem tq_c0' {P : Nat → Bool} {n e : Nat} (h : tq_c P n = 0) (h1 : 1 ≤ e) (hn : e ≤ n) : P e = false := by
  cases hp : P e
  · rfl
  · have := tq_cpos h1 hn hp
    omega
theorem tq_cone {P : Nat → Bool} {n : Nat} (h : ∀ e d, 1 ≤ e → e ≤ n → 1 ≤ d → d ≤ n → P e = true → P d = true → e = d) : tq_c P n ≤ 1 := by
  by_cases z : tq_c P n ≤ 1
  · exact z
  · obtain ⟨e, a, b, c, d⟩ := tq_cex (P := P) (n := n) (q := 0) (by omega)
    obtain ⟨e', a', b', c', d'⟩ := tq_cex (P := P) (n := n) (q := 1) (by omega)
    rw [h e e' a b a' b' c c'] at d
    omega
theorem tq_ctwo {P : Nat → Bool} {n i j : Nat} (h1 : 1 ≤ i) (hij : i < j) (hj : j ≤ n) (hi : P i = true) (hp : P j = true) : 2 ≤ tq_c P n := by
  have a := tq_cpos (n := j - 1) h1 (by omega) hi
  have b := tq_cpos (by omega) hj hp
  omega
theorem tq_call (n : Nat) : tq_c (fun _ => true) n = n := by
  induction n with
  | zero => rfl
  | succ n ih => rw [tq_cT rfl, ih]
