/-! one change more: the pictures -/
def tq_up {α : Type} (f : Nat → α) (k : Nat) (x : α) : Nat → α := fun j => if j = k then x else f j
theorem tq_us {α : Type} {f : Nat → α} {k : Nat} {x : α} : tq_up f k x k = x := if_pos rfl
theorem tq_un {α : Type} {f : Nat → α} {k j : Nat} {x : α} (h : j ≠ k) : tq_up f k x j = f j := if_neg h
/-- the line with e behind the place p -/
def tq_ins (ln : Nat → Nat) (p e : Nat) : Nat → Nat := fun i => if i ≤ p then ln i else if i = p + 1 then e else ln (i - 1)
theorem tq_ins1 {ln : Nat → Nat} {p e i : Nat} (h : i ≤ p) : tq_ins ln p e i = ln i := if_pos h
theorem tq_ins2 {ln : Nat → Nat} {p e : Nat} : tq_ins ln p e (p + 1) = e := by
  unfold tq_ins
  rw [if_neg (by omega), if_pos rfl]
theorem tq_ins3 {ln : Nat → Nat} {p e i : Nat} (h : p < i) : tq_ins ln p e (i + 1) = ln i := by
  unfold tq_ins
  rw [if_neg (by omega), if_neg (by omega), Nat.add_sub_cancel]
theorem tq_insc (ln : Nat → Nat) (p e : Nat) (P : Nat → Bool) (n : Nat) : (n ≤ p → tq_c (fun i => P (tq_ins ln p e i)) n = tq_c (fun i => P (ln i)) n) ∧
    (p ≤ n → tq_c (fun i => P (tq_ins ln p e i)) (n + 1) = tq_c (fun i => P (ln i)) n + (if P e = true then 1 else 0)) := by
  have a : ∀ n, n ≤ p → tq_c (fun i => P (tq_ins ln p e i)) n = tq_c (fun i => P (ln i)) n := fun n h => tq_ccong n (fun i _ hi => by rw [tq_ins1 (by omega)])
  refine ⟨a n, ?_⟩
  induction n with
  | zero =>
    intro h
    have h0 : p = 0 := by omega
    subst h0
    show 0 + (if P (tq_ins ln 0 e (0 + 1)) = true then 1 else 0) = 0 + (if P e = true then 1 else 0)
    rw [tq_ins2]
  | succ n ih =>
    intro h
    by_cases z : p = n + 1
    · show tq_c (fun i => P (tq_ins ln p e i)) (n + 1) + (if P (tq_ins ln p e (n + 1 + 1)) = true then 1 else 0) = _
      rw [a (n + 1) (by omega), ← z, tq_ins2]
    · show tq_c (fun i => P (tq_ins ln p e i)) (n + 1) + (if P (tq_ins ln p e (n + 1 + 1)) = true then 1 else 0) = tq_c (fun i => P (ln i)) n + (if P (ln (n + 1)) = true then 1 else 0) + (if P e = true then 1 else 0)
      rw [ih (by omega), tq_ins3 (by omega)]
      omega
section
variable {M N : Nat} {og bs st kc ln : Nat → Nat} {dl : Nat → Bool}
theorem tq_cup {r o n : Nat} (hn : n ≤ M) : tq_c (tq_o (tq_up og (M + 1) r) o) n = tq_c (tq_o og o) n :=
  tq_ccong n (fun e _ h => by unfold tq_o; rw [tq_un (by omega)])
theorem tq_cup1 {r o : Nat} : tq_c (tq_o (tq_up og (M + 1) r) o) (M + 1) = tq_c (tq_o og o) M + (if r = o then 1 else 0) := by
  by_cases z : r = o
  · rw [tq_cT (show tq_o (tq_up og (M + 1) r) o (M + 1) = true from decide_eq_true (by rw [tq_us]; exact z)), tq_cup (Nat.le_refl _), if_pos z]
  · rw [tq_cF (show tq_o (tq_up og (M + 1) r) o (M + 1) = false from decide_eq_false (by rw [tq_us]; exact z)), tq_cup (Nat.le_refl _), if_neg z]
    rfl
theorem tq_nuup {r e : Nat} (he : e ≤ M) : tq_nu (tq_up og (M + 1) r) e = tq_nu og e := by
  unfold tq_nu
  rw [tq_un (by omega)]
  exact tq_cup he
theorem tq_nuup1 {r : Nat} : tq_nu (tq_up og (M + 1) r) (M + 1) = tq_c (tq_o og r) M + 1 := by
  unfold tq_nu
  rw [tq_us, tq_cup1, if_pos rfl]
theorem tq_ogb (I : tq_PI M N og bs st kc ln dl) {e : Nat} (h : e ≤ M) : og e < 3 := by
  by_cases z : e = 0
  · rw [z, I.1.2.1]
    omega
  · exact (I.2.1 e (by omega) h).1
/-- an origin knows all its own -/
theorem tq_own (I : tq_PI M N og bs st kc ln dl) {r e : Nat} (hr : r < 3) (he : e ≤ M) (ho : og e = r) : tq_kn og kc r e = true := by
  refine decide_eq_true ?_
  rw [ho, I.2.2.2.2.1 r hr]
  unfold tq_nu
  rw [ho]
  exact tq_cmono _ he
theorem tq_knup (I : tq_PI M N og bs st kc ln dl) {r q e : Nat} (hr : r < 3) (hq : q < 3) (he : e ≤ M) : tq_kn (tq_up og (M + 1) r) (tq_kc1 kc (r * 3 + r)) q e = tq_kn og kc q e := by
  have ho := tq_ogb I he
  by_cases z : q = r ∧ og e = r
  · rw [z.1, tq_own I hr he z.2]
    refine decide_eq_true ?_
    have := of_decide_eq_true (tq_own I hr he z.2)
    rw [tq_nuup he, tq_un (by omega), z.2]
    rw [z.2] at this
    unfold tq_kc1
    rw [if_pos rfl]
    omega
  · unfold tq_kn
    rw [tq_nuup he, tq_un (by omega)]
    unfold tq_kc1
    rw [if_neg (fun h => z (by omega))]
theorem tq_knup1 (I : tq_PI M N og bs st kc ln dl) {r q : Nat} (hr : r < 3) (hq : q < 3) : tq_kn (tq_up og (M + 1) r) (tq_kc1 kc (r * 3 + r)) q (M + 1) = decide (q = r) := by
  unfold tq_kn
  rw [tq_nuup1, tq_us]
  unfold tq_kc1
  have ow := I.2.2.2.2.1 r hr
  have bd := I.2.2.2.1 q r hq hr
  by_cases z : q = r
  · rw [decide_eq_true z, z, if_pos rfl]
    exact decide_eq_true (by omega)
  · rw [decide_eq_false z, if_neg (by omega)]
    exact decide_eq_false (by omega)
theorem tq_skup {r s e : Nat} (he : e ≤ M) : tq_sk (tq_up st (M + 1) s) (tq_up og (M + 1) r) e = tq_sk st og e := by
  unfold tq_sk
  rw [tq_un (by omega), tq_un (by omega)]
theorem tq_skup1 {r s : Nat} : tq_sk (tq_up st (M + 1) s) (tq_up og (M + 1) r) (M + 1) = 3 * s + r := by
  unfold tq_sk
  rw [tq_us, tq_us]
theorem tq_lnM (I : tq_PI M N og bs st kc ln dl) {i : Nat} (hi : i ≤ N) : ln i ≤ M := by
  by_cases z : i = 0
  · rw [z, I.1.2.2.2]
    omega
  · exact (I.2.2.2.2.2.2.1 i (by omega) hi).2.1
theorem tq_PI2 (I : tq_PI M N og bs st kc ln dl) {r b s N' : Nat} {z : Bool} {ln' : Nat → Nat} (hr : r < 3) (hM : M < 48) (hb : b ≤ M) (hkb : tq_kn og kc r b = true) (s1 : 1 ≤ s) (sM : s ≤ M + 1)
    (hs : z = false → ∀ d, 1 ≤ d → d ≤ M → dl d = false → tq_kn og kc r d = true → st d < s) (l0 : ln' 0 = 0)
    (l1 : ∀ i, 1 ≤ i → i ≤ N' → 1 ≤ ln' i ∧ ln' i ≤ M + 1 ∧ tq_up dl (M + 1) z (ln' i) = false) (l2 : tq_L N' (tq_up bs (M + 1) b) ln' (tq_sk (tq_up st (M + 1) s) (tq_up og (M + 1) r)))
    (l3 : ∀ P : Nat → Bool, tq_c (fun i => P (ln' i)) N' = tq_c (fun e => !tq_up dl (M + 1) z e && P e) (M + 1)) :
    tq_PI (M + 1) N' (tq_up og (M + 1) r) (tq_up bs (M + 1) b) (tq_up st (M + 1) s) (tq_kc1 kc (r * 3 + r)) ln' (tq_up dl (M + 1) z) := by
  refine ⟨⟨by omega, ?_, ?_, l0⟩, fun e e1 eM => ?_, fun e q e1 eM hq h => ?_, fun q o hq ho => ?_, fun o ho => ?_, fun e d e1 eM d1 dM de dd h => ?_, l1, l2, l3⟩
  · rw [tq_un (by omega)]
    exact I.1.2.1
  · rw [tq_un (by omega)]
    exact I.1.2.2.1
  · by_cases c : e = M + 1
    · rw [c, tq_us, tq_us, tq_us]
      exact ⟨hr, by omega, s1, by omega⟩
    · rw [tq_un c, tq_un c, tq_un c]
      exact I.2.1 e e1 (by omega)
  · by_cases c : e = M + 1
    · rw [c, tq_knup1 I hr hq] at h
      rw [c, tq_us, tq_knup I hr hq hb, of_decide_eq_true h]
      exact hkb
    · have bd := (I.2.1 e e1 (by omega)).2.1
      rw [tq_knup I hr hq (by omega)] at h
      rw [tq_un c, tq_knup I hr hq (by omega)]
      exact I.2.2.1 e q e1 (by omega) hq h
  · have bd := I.2.2.2.1 q o hq ho
    rw [tq_cup1]
    unfold tq_kc1
    by_cases c : q * 3 + o = r * 3 + r
    · rw [if_pos c, if_pos (by omega)]
      omega
    · rw [if_neg c]
      omega
  · have ow := I.2.2.2.2.1 o ho
    rw [tq_cup1]
    unfold tq_kc1
    by_cases c : o = r
    · rw [c, if_pos rfl, if_pos rfl]
      rw [c] at ow
      omega
    · rw [if_neg (by omega), if_neg (by omega)]
      exact ow
  · have key : ∀ d, 1 ≤ d → d ≤ M → z = false → tq_up dl (M + 1) z d = false → tq_sk (tq_up st (M + 1) s) (tq_up og (M + 1) r) d = 3 * s + r → False := by
      intro d d1 dM hz dd h
      rw [tq_un (by omega)] at dd
      rw [tq_skup dM] at h
      unfold tq_sk at h
      have ho := tq_ogb I dM
      have o : og d = r := by omega
      have := hs hz d d1 dM dd (tq_own I hr dM o)
      omega
    by_cases c : e = M + 1
    · by_cases c2 : d = M + 1
      · omega
      · rw [c, tq_skup1] at h
        rw [c, tq_us] at de
        exact (key d d1 (by omega) de dd h.symm).elim
    · by_cases c2 : d = M + 1
      · rw [c2, tq_skup1] at h
        rw [c2, tq_us] at dd
        exact (key e e1 (by omega) dd de h).elim
      · rw [tq_skup (by omega), tq_skup (by omega)] at h
        rw [tq_un c] at de
        rw [tq_un c2] at dd
        exact I.2.2.2.2.2.1 e d e1 (by omega) d1 (by omega) de dd h
/-- a delete more -/
theorem tq_PId (I : tq_PI M N og bs st kc ln dl) {r b : Nat} (hr : r < 3) (hM : M < 48) (hb : b ≤ M) (hkb : tq_kn og kc r b = true) :
    tq_PI (M + 1) N (tq_up og (M + 1) r) (tq_up bs (M + 1) b) (tq_up st (M + 1) 1) (tq_kc1 kc (r * 3 + r)) ln (tq_up dl (M + 1) true) := by
  refine tq_PI2 I hr hM hb hkb (by omega) (by omega) (fun h => Bool.noConfusion h) I.1.2.2.2 (fun i i1 iN => ?_) (fun i i1 iN => ?_) (fun P => ?_)
  · have := I.2.2.2.2.2.2.1 i i1 iN
    rw [tq_un (by omega)]
    exact ⟨this.1, by omega, this.2.2⟩
  · obtain ⟨j, j1, j2, j3, j4⟩ := I.2.2.2.2.2.2.2.1 i i1 iN
    have hi := tq_lnM I iN
    refine ⟨j, j1, ?_, ?_, fun m m1 m2 => ?_⟩
    · rw [tq_un (by omega)]
      exact j2
    · rw [tq_skup hi, tq_skup (tq_lnM I (by omega))]
      exact j3
    · rw [tq_skup hi, tq_skup (tq_lnM I (by omega))]
      exact j4 m m1 m2
  · rw [I.2.2.2.2.2.2.2.2 P, tq_cF (by simp [tq_us])]
    exact tq_ccong M (fun e _ h => by rw [tq_un (by omega)])
/-- an insert more, behind place p of the line -/
theorem tq_PIi (I : tq_PI M N og bs st kc ln dl) {r j p s : Nat} (hr : r < 3) (hM : M < 48) (hj : j ≤ p) (hp : p ≤ N) (hkb : tq_kn og kc r (ln j) = true) (s1 : 1 ≤ s) (sM : s ≤ M + 1)
    (hs : ∀ d, 1 ≤ d → d ≤ M → dl d = false → tq_kn og kc r d = true → st d < s)
    (hg : ∀ m, j < m → m ≤ p → 3 * s + r < tq_sk st og (ln m)) (he : p = N ∨ ¬ 3 * s + r < tq_sk st og (ln (p + 1))) :
    tq_PI (M + 1) (N + 1) (tq_up og (M + 1) r) (tq_up bs (M + 1) (ln j)) (tq_up st (M + 1) s) (tq_kc1 kc (r * 3 + r)) (tq_ins ln p (M + 1)) (tq_up dl (M + 1) false) := by
  have lb : tq_sk st og (ln j) < 3 * s + r := by
    by_cases z : j = 0
    · rw [z, I.1.2.2.2, tq_sk0 I]
      omega
    · have hl := I.2.2.2.2.2.2.1 j (by omega) (by omega)
      have := hs (ln j) hl.1 hl.2.1 hl.2.2 hkb
      have := (I.2.1 (ln j) hl.1 hl.2.1).1
      unfold tq_sk
      omega
  -- what stands next is smaller
  have hn : p < N → tq_sk st og (ln (p + 1)) < 3 * s + r := fun h => by
    have hl := I.2.2.2.2.2.2.1 (p + 1) (by omega) (by omega)
    have ho := (I.2.1 _ hl.1 hl.2.1).1
    have le : ¬ 3 * s + r < tq_sk st og (ln (p + 1)) := by
      rcases he with e | e
      · omega
      · exact e
    by_cases c : tq_sk st og (ln (p + 1)) = 3 * s + r
    · exfalso
      unfold tq_sk at c
      have o : og (ln (p + 1)) = r := by omega
      have := hs _ hl.1 hl.2.1 hl.2.2 (tq_own I hr hl.2.1 o)
      omega
    · omega
  refine tq_PI2 I hr hM (tq_lnM I (by omega)) hkb s1 sM (fun _ => hs) (by rw [tq_ins1 (by omega)]; exact I.1.2.2.2) (fun i i1 iN => ?_) (fun i i1 iN => ?_) (fun P => ?_)
  · have old : ∀ i, 1 ≤ i → i ≤ N → 1 ≤ ln i ∧ ln i ≤ M + 1 ∧ tq_up dl (M + 1) false (ln i) = false := fun i i1 iN => by
      have := I.2.2.2.2.2.2.1 i i1 iN
      rw [tq_un (by omega)]
      exact ⟨this.1, by omega, this.2.2⟩
    by_cases c : i ≤ p
    · rw [tq_ins1 c]
      exact old i i1 (by omega)
    · by_cases c2 : i = p + 1
      · rw [c2, tq_ins2, tq_us]
        exact ⟨by omega, by omega, rfl⟩
      · obtain ⟨q, rfl⟩ : ∃ q, i = q + 1 := ⟨i - 1, by omega⟩
        rw [tq_ins3 (by omega)]
        exact old q (by omega) (by omega)
  · by_cases c : i ≤ p
    · obtain ⟨j0, k1, k2, k3, k4⟩ := I.2.2.2.2.2.2.2.1 i i1 (by omega)
      have hi := tq_lnM I (show i ≤ N by omega)
      rw [tq_ins1 c]
      refine ⟨j0, k1, ?_, ?_, fun m m1 m2 => ?_⟩
      · rw [tq_un (by omega), tq_ins1 (by omega)]
        exact k2
      · rw [tq_ins1 (by omega), tq_skup hi, tq_skup (tq_lnM I (by omega))]
        exact k3
      · rw [tq_ins1 (by omega), tq_skup hi, tq_skup (tq_lnM I (by omega))]
        exact k4 m m1 m2
    · by_cases c2 : i = p + 1
      · rw [c2, tq_ins2]
        refine ⟨j, by omega, ?_, ?_, fun m m1 m2 => ?_⟩
        · rw [tq_us, tq_ins1 hj]
        · rw [tq_ins1 hj, tq_skup (tq_lnM I (by omega)), tq_skup1]
          exact lb
        · rw [tq_ins1 (by omega), tq_skup (tq_lnM I (by omega)), tq_skup1]
          exact hg m m1 (by omega)
      · obtain ⟨q, rfl⟩ : ∃ q, i = q + 1 := ⟨i - 1, by omega⟩
        have hq : q ≤ N := by omega
        have hi := tq_lnM I hq
        have hpN : p < N := by omega
        have sm := hn hpN
        obtain ⟨j0, k1, k2, k3, k4⟩ := I.2.2.2.2.2.2.2.1 q (by omega) hq
        rw [tq_ins3 (show p < q by omega)]
        by_cases w : j0 ≤ p
        · refine ⟨j0, by omega, ?_, ?_, fun m m1 m2 => ?_⟩
          · rw [tq_un (by omega), tq_ins1 w]
            exact k2
          · rw [tq_ins1 w, tq_skup hi, tq_skup (tq_lnM I (by omega))]
            exact k3
          · by_cases v : m ≤ p
            · rw [tq_ins1 v, tq_skup hi, tq_skup (tq_lnM I (by omega))]
              exact k4 m m1 (by omega)
            · by_cases v2 : m = p + 1
              · rw [v2, tq_ins2, tq_skup1, tq_skup hi]
                by_cases v3 : q = p + 1
                · rw [v3]
                  exact sm
                · have := k4 (p + 1) (by omega) (by omega)
                  omega
              · obtain ⟨m', rfl⟩ : ∃ m', m = m' + 1 := ⟨m - 1, by omega⟩
                rw [tq_ins3 (by omega), tq_skup hi, tq_skup (tq_lnM I (by omega))]
                exact k4 m' (by omega) (by omega)
        · refine ⟨j0 + 1, by omega, ?_, ?_, fun m m1 m2 => ?_⟩
          · rw [tq_un (by omega), tq_ins3 (by omega)]
            exact k2
          · rw [tq_ins3 (by omega), tq_skup hi, tq_skup (tq_lnM I (by omega))]
            exact k3
          · obtain ⟨m', rfl⟩ : ∃ m', m = m' + 1 := ⟨m - 1, by omega⟩
            rw [tq_ins3 (by omega), tq_skup hi, tq_skup (tq_lnM I (by omega))]
            exact k4 m' (by omega) (by omega)
  · rw [(tq_insc ln p (M + 1) P N).2 hp, I.2.2.2.2.2.2.2.2 P]
    have t : tq_c (fun e => !tq_up dl (M + 1) false e && P e) M = tq_c (fun e => !dl e && P e) M := tq_ccong M (fun e _ h => by rw [tq_un (by omega)])
    show _ = tq_c (fun e => !tq_up dl (M + 1) false e && P e) M + (if (!tq_up dl (M + 1) false (M + 1) && P (M + 1)) = true then 1 else 0)
    rw [t, tq_us, Bool.not_false, Bool.true_and]
end
