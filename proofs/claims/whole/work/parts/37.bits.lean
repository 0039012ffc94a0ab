/-! BITS -/
theorem z_sm : ∀ n, n < 32 → ((nI n &&& 31).toBitVec.smod 32).toNat = n := by decide +kernel
theorem z_pw {k n : Nat} (h : k ≤ n) : 2 ^ k ≤ 2 ^ n := Nat.pow_le_pow_right (by omega) h
theorem z_pos (k : Nat) : 0 < 2 ^ k := Nat.two_pow_pos k
theorem z_p6 {k : Nat} (h : k ≤ 6) : 2 ^ k ≤ 64 := z_pw (n := 6) h
theorem z_p12 {k : Nat} (h : k ≤ 12) : 2 ^ k ≤ 4096 := z_pw (n := 12) h
theorem z_p30 {k : Nat} (h : k ≤ 30) : 2 ^ k ≤ 1073741824 := z_pw (n := 30) h
theorem z_bit {u k : Nat} (hu : u < 2 ^ 31) (hk : k < 32) : (nI u >>> (nI k &&& 31)) &&& (1 : Int32) = bI (u.testBit k) := by
  rw [pk_shrN hu _ k (z_sm k hk), pk_andN (by have := Nat.div_le_self u (2 ^ k); omega) 1 (by decide), Nat.testBit_eq_decide_div_mod_eq]
  rcases Nat.mod_two_eq_zero_or_one (u / 2 ^ k) with h | h
  · rw [Nat.pow_one, h]; rfl
  · rw [Nat.pow_one, h]; rfl
theorem z_sh {k : Nat} (hk : k ≤ 30) : (1 : Int32) <<< (nI k &&& 31) = nI (2 ^ k) := by
  have := pk_shlN (n := 1) (nI k &&& 31) k (z_sm k (by omega)) (by have := z_p30 hk; omega)
  rw [Nat.one_mul] at this
  exact this
theorem z_or (a b : Nat) : nI a ||| nI b = nI (a ||| b) := by
  apply Int32.toBitVec_inj.mp
  show BitVec.ofNat 32 a ||| BitVec.ofNat 32 b = BitVec.ofNat 32 (a ||| b)
  exact (BitVec.ofNat_or).symm
theorem z_ors {u k : Nat} (hk : k ≤ 30) : nI u ||| ((1 : Int32) <<< (nI k &&& 31)) = nI (u ||| 2 ^ k) := by rw [z_sh hk, z_or]
theorem z_m1 {k : Nat} (hk : k ≤ 30) : ((1 : Int32) <<< (nI k &&& 31)) - 1 = nI (2 ^ k - 1) := by rw [z_sh hk, c_1, pk_sub (z_pos k)]
theorem z_lt {u k n : Nat} (hu : u < 2 ^ n) (hk : k < n) : u ||| 2 ^ k < 2 ^ n := Nat.or_lt_two_pow hu (Nat.pow_lt_pow_right (by omega) hk)
theorem z_gt {u k : Nat} (h : u.testBit k = false) : u < u ||| 2 ^ k := by
  have h1 : u ≤ u ||| 2 ^ k := Nat.left_le_or
  have h2 : u ≠ u ||| 2 ^ k := fun e => by
    have : (u ||| 2 ^ k).testBit k = true := by simp [Nat.testBit_or]
    rw [← e, h] at this
    cases this
  omega
theorem z_tb (u k j : Nat) : (u ||| 2 ^ k).testBit j = (u.testBit j || decide (k = j)) := by rw [Nat.testBit_or, Nat.testBit_two_pow]
/-! LOADINGS, as numbers -/
def sB (f : Nat → Nat) (u n : Nat) : Nat := sN (fun k => if u.testBit k then f k else 0) n
def cz (u n : Nat) : Nat := sN (fun k => if u.testBit k then 0 else 1) n
theorem cz_le (u n : Nat) : cz u n ≤ n := by
  have := sN_le (f := fun k => if u.testBit k then 0 else 1) (c := 1) n (fun k _ => by split <;> omega)
  unfold cz
  omega
theorem cz_or {u k : Nat} (h : u.testBit k = false) : ∀ n, cz (u ||| 2 ^ k) n + (if k < n then 1 else 0) = cz u n
  | 0 => rfl
  | n + 1 => by
    have ih := cz_or h n
    have e : ∀ x, cz x (n + 1) = cz x n + (if x.testBit n then 0 else 1) := fun x => rfl
    rw [e, e, z_tb]
    by_cases c : k = n
    · subst c
      rw [if_neg (by omega)] at ih
      rw [h]
      simp only [Bool.false_or, decide_true, if_true, if_pos (Nat.lt_succ_self k)]
      simp only [Bool.false_eq_true, if_false]
      omega
    · by_cases c2 : k < n
      · rw [if_pos c2] at ih
        rw [if_pos (show k < n + 1 by omega)]
        simp only [c, decide_false, Bool.or_false]
        omega
      · rw [if_neg c2] at ih
        rw [if_neg (show ¬ k < n + 1 by omega)]
        simp only [c, decide_false, Bool.or_false]
        omega
theorem cz_0 {u n : Nat} (h : cz u n = 0) {k : Nat} (hk : k < n) : u.testBit k = true := by
  cases hb : u.testBit k with
  | true => rfl
  | false =>
    have := cz_or hb n
    rw [if_pos hk] at this
    omega
theorem cz_full : ∀ n, cz (2 ^ n - 1) n = 0 := by
  intro n
  unfold cz
  rw [sN_congr (g := fun _ => 0) n (fun k hk => by rw [Nat.testBit_two_pow_sub_one]; simp [hk])]
  have := sN_le (f := fun _ => 0) (c := 0) n (fun _ _ => Nat.le_refl 0)
  omega
theorem full_of_cz {u n : Nat} (hu : u < 2 ^ n) (h : cz u n = 0) : u = 2 ^ n - 1 := by
  apply Nat.eq_of_testBit_eq
  intro i
  rw [Nat.testBit_two_pow_sub_one]
  by_cases c : i < n
  · rw [cz_0 h c]; simp [c]
  · rw [Nat.testBit_lt_two_pow (Nat.lt_of_lt_of_le hu (z_pw (by omega)))]; simp [c]
theorem sN_cz {u c : Nat} {h : Nat → Nat} : ∀ n, (∀ k, k < n → u.testBit k = false → h k ≤ c) → sN (fun k => if u.testBit k then 0 else h k) n ≤ cz u n * c
  | 0, _ => Nat.zero_le _
  | n + 1, H => by
    have ih := sN_cz n (fun k hk => H k (by omega))
    have e1 : sN (fun k => if u.testBit k then 0 else h k) (n + 1) = sN (fun k => if u.testBit k then 0 else h k) n + (if u.testBit n then 0 else h n) := rfl
    have e2 : cz u (n + 1) = cz u n + (if u.testBit n then 0 else 1) := rfl
    rw [e1, e2, Nat.add_mul]
    cases hb : u.testBit n with
    | true => simp only [if_true]; omega
    | false =>
      have := H n (by omega) hb
      simp only [Bool.false_eq_true, if_false]
      omega
def fct : Nat → Nat
  | 0 => 1
  | n + 1 => (n + 1) * fct n
theorem fct_le : ∀ m, m ≤ 12 → fct m ≤ 479001600 := by decide
theorem fct_1 : ∀ m, 1 ≤ fct m
  | 0 => Nat.le_refl 1
  | n + 1 => Nat.mul_pos (by omega) (fct_1 n)
section WAYS
variable (P Q : Nat) (f g : Nat → Nat) (w : Nat)
def okL (u v : Nat) : Bool := decide (sB f u P ≤ sB g v Q + w ∧ sB g v Q ≤ sB f u P + w)
def wW : Nat → Nat → Nat → Nat
  | 0, _, _ => 0
  | n + 1, u, v => if okL P Q f g w u v then (if u = 2 ^ P - 1 ∧ v = 2 ^ Q - 1 then 1 else sN (fun k => if u.testBit k then 0 else wW n (u ||| 2 ^ k) v) P + sN (fun k => if v.testBit k then 0 else wW n u (v ||| 2 ^ k)) Q) else 0
theorem wW_st : ∀ n u v, cz u P + cz v Q < n → wW P Q f g w n u v = wW P Q f g w (n + 1) u v
  | 0, u, v, h => by omega
  | n + 1, u, v, h => by
    rw [wW, wW]
    rw [sN_congr (g := fun k => if u.testBit k then 0 else wW P Q f g w (n + 1) (u ||| 2 ^ k) v) P ?_, sN_congr (g := fun k => if v.testBit k then 0 else wW P Q f g w (n + 1) u (v ||| 2 ^ k)) Q ?_]
    · intro k hk
      cases hb : v.testBit k with
      | true => rfl
      | false =>
        have := cz_or hb Q
        rw [if_pos hk] at this
        simp only [Bool.false_eq_true, if_false]
        exact wW_st n u (v ||| 2 ^ k) (by omega)
    · intro k hk
      cases hb : u.testBit k with
      | true => rfl
      | false =>
        have := cz_or hb P
        rw [if_pos hk] at this
        simp only [Bool.false_eq_true, if_false]
        exact wW_st n (u ||| 2 ^ k) v (by omega)
theorem wW_le : ∀ n u v, wW P Q f g w n u v ≤ fct (cz u P + cz v Q)
  | 0, u, v => Nat.zero_le _
  | n + 1, u, v => by
    rw [wW]
    have h1 := fct_1 (cz u P + cz v Q)
    have e1 := sN_cz (u := u) (c := fct (cz u P + cz v Q - 1)) (h := fun k => wW P Q f g w n (u ||| 2 ^ k) v) P (fun k hk hb => by
      have h2 := cz_or hb P
      rw [if_pos hk] at h2
      have h3 := wW_le n (u ||| 2 ^ k) v
      rw [show cz (u ||| 2 ^ k) P + cz v Q = cz u P + cz v Q - 1 by omega] at h3
      exact h3)
    have e2 := sN_cz (u := v) (c := fct (cz u P + cz v Q - 1)) (h := fun k => wW P Q f g w n u (v ||| 2 ^ k)) Q (fun k hk hb => by
      have h2 := cz_or hb Q
      rw [if_pos hk] at h2
      have h3 := wW_le n u (v ||| 2 ^ k)
      rw [show cz u P + cz (v ||| 2 ^ k) Q = cz u P + cz v Q - 1 by omega] at h3
      exact h3)
    have e3 : cz u P * fct (cz u P + cz v Q - 1) + cz v Q * fct (cz u P + cz v Q - 1) ≤ fct (cz u P + cz v Q) := by
      rw [← Nat.add_mul]
      cases hm : cz u P + cz v Q with
      | zero => rw [Nat.zero_mul]; exact Nat.zero_le _
      | succ m => exact Nat.le_refl _
    split
    · split
      · exact h1
      · exact Nat.le_trans (Nat.add_le_add e1 e2) e3
    · omega
def wys (u v : Nat) : Nat := wW P Q f g w 13 u v
def bhd (u v : Nat) : Nat := sN (fun k => if u.testBit k then 0 else wys P Q f g w (u ||| 2 ^ k) v) P + sN (fun k => if v.testBit k then 0 else wys P Q f g w u (v ||| 2 ^ k)) Q
theorem wys_eq (hP : P ≤ 6) (hQ : Q ≤ 6) (u v : Nat) : wys P Q f g w u v = if okL P Q f g w u v then (if u = 2 ^ P - 1 ∧ v = 2 ^ Q - 1 then 1 else bhd P Q f g w u v) else 0 := by
  have h1 := cz_le u P
  have h2 := cz_le v Q
  unfold wys
  rw [wW_st P Q f g w 13 u v (by omega), wW]
  rfl
theorem wys_le (hP : P ≤ 6) (hQ : Q ≤ 6) (u v : Nat) : wys P Q f g w u v ≤ 479001600 := by
  have h1 := cz_le u P
  have h2 := cz_le v Q
  exact Nat.le_trans (wW_le P Q f g w 13 u v) (fct_le _ (by omega))
theorem bhd_le (hP : P ≤ 6) (hQ : Q ≤ 6) (u v : Nat) : bhd P Q f g w u v ≤ 6000000000 := by
  have e1 := sN_le (f := fun k => if u.testBit k then 0 else wys P Q f g w (u ||| 2 ^ k) v) (c := 479001600) P (fun k _ => by
    have := wys_le P Q f g w hP hQ (u ||| 2 ^ k) v
    split <;> omega)
  have e2 := sN_le (f := fun k => if v.testBit k then 0 else wys P Q f g w u (v ||| 2 ^ k)) (c := 479001600) Q (fun k _ => by
    have := wys_le P Q f g w hP hQ u (v ||| 2 ^ k)
    split <;> omega)
  have e3 : P * 479001600 ≤ 6 * 479001600 := Nat.mul_le_mul_right _ hP
  have e4 : Q * 479001600 ≤ 6 * 479001600 := Nat.mul_le_mul_right _ hQ
  unfold bhd
  omega
end WAYS
theorem sB_lo {f : Nat → Nat} {u k : Nat} (h : u < 2 ^ k) : sB f u (k + 1) = sB f u k := by
  show sB f u k + (if u.testBit k then f k else 0) = sB f u k
  rw [Nat.testBit_lt_two_pow h]
  rfl
theorem sB_hi {f : Nat → Nat} {u k : Nat} (h : u < 2 ^ k) : sB f (2 ^ k + u) (k + 1) = sB f u k + f k := by
  show sB f (2 ^ k + u) k + (if (2 ^ k + u).testBit k then f k else 0) = sB f u k + f k
  rw [Nat.testBit_two_pow_add_eq, Nat.testBit_lt_two_pow h]
  have : sB f (2 ^ k + u) k = sB f u k := sN_congr k (fun j hj => by rw [Nat.testBit_two_pow_add_gt hj])
  rw [this]
  rfl
theorem sB_le {f : Nat → Nat} {u n : Nat} (hn : n ≤ 6) (hf : ∀ k, k < n → f k ≤ 50) : sB f u n ≤ 300 := by
  have := sN_le (f := fun k => if u.testBit k then f k else 0) (c := 50) n (fun k hk => by
    have := hf k hk
    split <;> omega)
  unfold sB
  omega
