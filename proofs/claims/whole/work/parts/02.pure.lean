/-! pure pictures: literals that are so, when a clause holds, allowed, loss, kept, the scan over the assignments -/
def ss_so (l a : Nat) : Bool := decide (a / 2 ^ (l / 2) % 2 = 1 - l % 2)
def ss_Lf (a : Nat) : Nat → Int32
  | 0 => 0
  | v + 1 => ss_Lf a v ||| ((1 : Int32) <<< ((2 * nI v + (((nI a >>> (nI v &&& 31)) &&& 1) ^^^ 1)) &&& 31))
def ss_L (a : Nat) : Int32 := ss_Lf a 8
def ss_H (c : Int32) (a : Nat) : Bool := decide (¬ (c &&& ss_L a) = 0)
theorem ss_bit : ∀ a, a < 256 → ∀ l, l < 32 → bt (ss_L a) l = (decide (l < 16) && ss_so l a) := by decide +kernel
theorem ss_b1 : ∀ i, i < 32 → bt 1 i = decide (i = 0) := by decide +kernel
theorem ss_tb (c : Int32) (l : Nat) (hl : l < 32) : ((c >>> (nI l &&& 31)) &&& 1) = (if bt c l = true then 1 else 0) := by
  apply b_ext
  intro i hi
  rw [b_and, ss_b1 i hi, b_sshr l hl c hi]
  by_cases h0 : i = 0
  · subst h0
    rw [if_pos (by omega), Nat.add_zero, decide_eq_true rfl, Bool.and_true]
    cases hb : bt c l
    · rw [if_neg (by decide)]; exact (b_0 0).symm
    · rw [if_pos rfl]; exact (ss_b1 0 (by decide)).symm
  · rw [decide_eq_false h0, Bool.and_false]
    cases hb : bt c l
    · rw [if_neg (by decide)]; exact (b_0 i).symm
    · rw [if_pos rfl, ss_b1 i hi, decide_eq_false h0]
theorem ss_t1 (c : Int32) (l : Nat) (hl : l < 32) : ((c >>> (nI l &&& 31)) &&& 1) = 1 ↔ bt c l = true := by
  rw [ss_tb c l hl]
  cases hb : bt c l
  · rw [if_neg (by decide)]; exact ⟨fun z => absurd z (by decide), fun z => absurd z (by decide)⟩
  · rw [if_pos rfl]; exact ⟨fun _ => rfl, fun _ => rfl⟩
theorem ss_Ht {c : Int32} {a l : Nat} (ha : a < 256) (hl : l < 16) (h1 : bt c l = true) (h2 : ss_so l a = true) : ss_H c a = true := by
  apply decide_eq_true
  intro h
  have e := b_and c (ss_L a) l
  rw [h, b_0, h1, ss_bit a ha l (by omega), h2, decide_eq_true hl] at e
  exact absurd e (by decide)
theorem ss_Hf {c : Int32} {a : Nat} (ha : a < 256) (h : ∀ l, l < 16 → bt c l = true → ss_so l a = false) : ss_H c a = false := by
  apply decide_eq_false
  intro hn
  apply hn
  apply b_ext
  intro i hi
  rw [b_and, b_0, ss_bit a ha i hi]
  by_cases h16 : i < 16
  · cases hb : bt c i
    · rfl
    · rw [h i h16 hb, Bool.and_false, Bool.and_false]
  · rw [decide_eq_false h16, Bool.false_and, Bool.and_false]
theorem ss_H0 (a : Nat) : ss_H 0 a = false := by
  apply decide_eq_false
  intro hn
  apply hn
  apply b_ext
  intro i hi
  rw [b_and, b_0, Bool.false_and]
/-- the reference's 'so' of a literal below 16 -/
theorem ss_soY : ∀ a, a < 256 → ∀ l, l < 16 → (((nI a >>> ((nI l / 2) &&& 31)) &&& 1) = 1 - (nI l - nI l / 2 * 2) ↔ ss_so l a = true) := by decide +kernel
/-- the clause of the opposite literal alone -/
theorem ss_opp : ∀ a, a < 256 → ∀ l, l < 16 → ss_H ((1 : Int32) <<< ((nI l ^^^ 1) &&& 31)) a = !ss_so l a := by decide +kernel
/-- weight of clause i as a number -/
def ss_w (B : Nat → Int32) (i : Nat) : Nat := (B i).toNatClampNeg
def ss_W (B : Nat → Int32) : Prop := ∀ i, ∃ w, w ≤ 50 ∧ B i = nI w
def ss_al (A B : Nat → Int32) (c a : Nat) : Bool := decide (∀ i, i < c → ss_H (A i) a = true ∨ ¬ B i = 0)
def ss_sm (A B : Nat → Int32) (a : Nat) : Nat → Nat
  | 0 => 0
  | i + 1 => if ss_H (A i) a = true then ss_sm A B a i else ss_sm A B a i + ss_w B i
def ss_kp (A B : Nat → Int32) (a : Nat) : Nat → Nat
  | 0 => 0
  | i + 1 => if ss_H (A i) a = true ∧ ¬ B i = 0 then ss_kp A B a i + 1 else ss_kp A B a i
theorem ss_wB {B : Nat → Int32} (h : ss_W B) (i : Nat) : ss_w B i ≤ 50 ∧ B i = nI (ss_w B i) := by
  obtain ⟨w, hw, e⟩ := h i
  have e2 : ss_w B i = w := by unfold ss_w; rw [e, nI_clamp (by omega)]
  rw [e2]
  exact ⟨hw, e⟩
theorem ss_sm_le {A B : Nat → Int32} (h : ss_W B) (a : Nat) : ∀ i, ss_sm A B a i ≤ 50 * i := by
  intro i
  induction i with
  | zero => exact Nat.le_refl _
  | succ i ih =>
    have := (ss_wB h i).1
    unfold ss_sm
    split <;> omega
theorem ss_kp_le {A B : Nat → Int32} (a : Nat) : ∀ i, ss_kp A B a i ≤ i := by
  intro i
  induction i with
  | zero => exact Nat.le_refl _
  | succ i ih =>
    unfold ss_kp
    split <;> omega
theorem ss_al_t {A B : Nat → Int32} {c a : Nat} (h : ∀ i, i < c → ss_H (A i) a = true ∨ ¬ B i = 0) : ss_al A B c a = true := decide_eq_true h
theorem ss_al_f {A B : Nat → Int32} {c a i : Nat} (hi : i < c) (h : ss_H (A i) a = false) (h0 : B i = 0) : ss_al A B c a = false := by
  apply decide_eq_false
  intro z
  cases z i hi with
  | inl z => rw [h] at z; exact absurd z (by decide)
  | inr z => exact z h0
/-- the scan: the first of the least among those that are ok -/
def ss_nx (ls : Nat → Nat) (k : Nat) : Option Nat → Option Nat
  | none => some k
  | some f => if ls k < ls f then some k else some f
def ss_sc (ok : Nat → Bool) (ls : Nat → Nat) : Nat → Option Nat
  | 0 => none
  | k + 1 => if ok k = true then ss_nx ls k (ss_sc ok ls k) else ss_sc ok ls k
theorem ss_sc_n {ok : Nat → Bool} {ls : Nat → Nat} {k : Nat} (h : ok k = false) : ss_sc ok ls (k + 1) = ss_sc ok ls k := by
  show (if ok k = true then _ else _) = _
  rw [if_neg (by rw [h]; decide)]
theorem ss_sc_y {ok : Nat → Bool} {ls : Nat → Nat} {k : Nat} (h : ok k = true) : ss_sc ok ls (k + 1) = ss_nx ls k (ss_sc ok ls k) := by
  show (if ok k = true then _ else _) = _
  rw [if_pos h]
theorem ss_sc_c {ok ok' : Nat → Bool} {ls : Nat → Nat} : ∀ k, (∀ b, b < k → ok b = ok' b) → ss_sc ok ls k = ss_sc ok' ls k := by
  intro k
  induction k with
  | zero => intro _; rfl
  | succ k ih =>
    intro h
    have e := ih (fun b hb => h b (by omega))
    have ek := h k (by omega)
    cases hk : ok k
    · rw [ss_sc_n hk, ss_sc_n (ek.symm.trans hk), e]
    · rw [ss_sc_y hk, ss_sc_y (ek.symm.trans hk), e]
def ss_P (ok : Nat → Bool) (ls : Nat → Nat) (k : Nat) : Option Nat → Prop
  | none => ∀ b, b < k → ok b = false
  | some f => f < k ∧ ok f = true ∧ (∀ b, b < f → ok b = true → ls f < ls b) ∧ (∀ b, b < k → ok b = true → ls f ≤ ls b)
theorem ss_sc_P (ok : Nat → Bool) (ls : Nat → Nat) : ∀ k, ss_P ok ls k (ss_sc ok ls k) := by
  intro k
  induction k with
  | zero => intro b hb; omega
  | succ k ih =>
    cases hk : ok k
    · rw [ss_sc_n hk]
      revert ih
      cases ss_sc ok ls k with
      | none =>
        intro ih b hb
        by_cases e : b = k
        · rw [e]; exact hk
        · exact ih b (by omega)
      | some f =>
        intro ih
        obtain ⟨h1, h2, h3, h4⟩ := ih
        refine ⟨by omega, h2, h3, fun b hb hok => ?_⟩
        by_cases e : b = k
        · rw [e, hk] at hok; exact absurd hok (by decide)
        · exact h4 b (by omega) hok
    · rw [ss_sc_y hk]
      revert ih
      cases ss_sc ok ls k with
      | none =>
        intro ih
        refine ⟨by omega, hk, fun b hb hok => ?_, fun b hb hok => ?_⟩
        · rw [ih b hb] at hok; exact absurd hok (by decide)
        · by_cases e : b = k
          · rw [e]; exact Nat.le_refl _
          · rw [ih b (by omega)] at hok; exact absurd hok (by decide)
      | some f =>
        intro ih
        obtain ⟨h1, h2, h3, h4⟩ := ih
        by_cases hl : ls k < ls f
        · have e : ss_nx ls k (some f) = some k := if_pos hl
          rw [e]
          refine ⟨by omega, hk, fun b hb hok => ?_, fun b hb hok => ?_⟩
          · have := h4 b hb hok; omega
          · by_cases e : b = k
            · rw [e]; exact Nat.le_refl _
            · have := h4 b (by omega) hok; omega
        · have e : ss_nx ls k (some f) = some f := if_neg hl
          rw [e]
          refine ⟨by omega, h2, h3, fun b hb hok => ?_⟩
          by_cases e : b = k
          · rw [e]; omega
          · exact h4 b (by omega) hok
def ss_fe : Option Nat → Int32
  | none => -1
  | some f => nI f
def ss_ge (ls : Nat → Nat) : Option Nat → Int32
  | none => -1
  | some f => nI (ls f)
def ss_le (ls : Nat → Nat) : Option Nat → Int32
  | none => 0
  | some f => nI (ls f)
theorem ss_neg : (-1 : Int32) < 0 := by decide
theorem ss_m1 {n : Nat} (h : n < 2 ^ 31) : ¬ nI n = -1 := by
  intro e
  have := nI_pos h
  rw [e] at this
  exact this (by decide)
theorem ss_m1' {n : Nat} (h : n < 2 ^ 31) : ¬ (-1 : Int32) = nI n := fun e => ss_m1 h e.symm
/-- the arrays after a drop's loop of d steps from j on -/
def ss_sh : Nat → (Nat → Int32) → Nat → (Nat → Int32)
  | 0, A, _ => A
  | d + 1, A, j => ss_sh d (upd A j (A (j + 1))) (j + 1)
theorem ss_W0 : ss_W (fun _ => 0) := fun _ => ⟨0, by omega, nI_0.symm⟩
theorem ss_Wu {B : Nat → Int32} {k w : Nat} (h : ss_W B) (hw : w ≤ 50) : ss_W (upd B k (nI w)) := by
  intro i
  by_cases e : i = k
  · rw [e, pk_us]; exact ⟨w, hw, rfl⟩
  · rw [pk_un e]; exact h i
theorem ss_Ws : ∀ (d : Nat) (B : Nat → Int32) (j : Nat), ss_W B → ss_W (ss_sh d B j) := by
  intro d
  induction d with
  | zero => intro B j h; exact h
  | succ d ih =>
    intro B j h
    apply ih
    obtain ⟨w, hw, e⟩ := h (j + 1)
    rw [e]
    exact ss_Wu h hw
theorem ss_sm_y {A B : Nat → Int32} {a i : Nat} (z : ss_H (A i) a = true) : ss_sm A B a (i + 1) = ss_sm A B a i := if_pos z
theorem ss_sm_n {A B : Nat → Int32} {a i : Nat} (hW : ss_W B) (z : ss_H (A i) a = false) : nI (ss_sm A B a i) + B i = nI (ss_sm A B a (i + 1)) := by
  have e : ss_sm A B a (i + 1) = ss_sm A B a i + ss_w B i := if_neg (by rw [z]; decide)
  rw [e, ← nI_add, ← (ss_wB hW i).2]
theorem ss_kp_y {A B : Nat → Int32} {a i : Nat} (z : ss_H (A i) a = true) (z0 : ¬ B i = 0) : nI (ss_kp A B a i) + 1 = nI (ss_kp A B a (i + 1)) := by
  have e : ss_kp A B a (i + 1) = ss_kp A B a i + 1 := if_pos ⟨z, z0⟩
  rw [e, nI_1]
theorem ss_kp_n {A B : Nat → Int32} {a i : Nat} (z : ss_H (A i) a = false) : ss_kp A B a (i + 1) = ss_kp A B a i := if_neg (fun y => by rw [z] at y; exact absurd y.1 (by decide))
theorem ss_kp_0 {A B : Nat → Int32} {a i : Nat} (z : B i = 0) : ss_kp A B a (i + 1) = ss_kp A B a i := if_neg (fun y => y.2 z)
theorem ss_B0 {B : Nat → Int32} (hW : ss_W B) (i : Nat) : B i ≤ 0 ↔ B i = 0 := by
  obtain ⟨w, hw, e⟩ := hW i
  rw [e, ← nI_0, nI_leI (by omega) (by omega), nI_eq (by omega) (by omega)]
  omega
theorem ss_hf {c : Int32} {a : Nat} (z : (c &&& ss_L a) = 0) : ss_H c a = false := decide_eq_false (fun n => n z)
theorem ss_ht {c : Int32} {a : Nat} (z : ¬ (c &&& ss_L a) = 0) : ss_H c a = true := decide_eq_true z
/-- what the search goes by: the clause doesn't hold, and the assignment is allowed -/
def ss_ok (A B : Nat → Int32) (c : Nat) (cl : Int32) (b : Nat) : Bool := !ss_H cl b && ss_al A B c b
def ss_ls (A B : Nat → Int32) (c : Nat) (b : Nat) : Nat := ss_sm A B b c
def ss_S (A B : Nat → Int32) (c : Nat) (cl : Int32) (k : Nat) : Option Nat := ss_sc (ss_ok A B c cl) (ss_ls A B c) k
theorem ss_ls_lt {A B : Nat → Int32} {c : Nat} (hc : c ≤ 24) (hW : ss_W B) (b : Nat) : ss_ls A B c b < 2 ^ 31 := by
  have := ss_sm_le (A := A) hW b c
  unfold ss_ls
  omega
theorem ss_S_y {A B : Nat → Int32} {c k : Nat} {cl : Int32} (h : ss_ok A B c cl k = true) : ss_S A B c cl (k + 1) = ss_nx (ss_ls A B c) k (ss_S A B c cl k) := ss_sc_y h
theorem ss_S_n {A B : Nat → Int32} {c k : Nat} {cl : Int32} (h : ss_ok A B c cl k = false) : ss_S A B c cl (k + 1) = ss_S A B c cl k := ss_sc_n h
theorem ss_S_P (A B : Nat → Int32) (c : Nat) (cl : Int32) (k : Nat) : ss_P (ss_ok A B c cl) (ss_ls A B c) k (ss_S A B c cl k) := ss_sc_P _ _ k
theorem ss_ok_y {A B : Nat → Int32} {c k : Nat} {cl : Int32} (h : ss_H cl k = false) (ha : ss_al A B c k = true) : ss_ok A B c cl k = true := by unfold ss_ok; rw [h, ha]; rfl
theorem ss_ok_h {A B : Nat → Int32} {c k : Nat} {cl : Int32} (h : ss_H cl k = true) : ss_ok A B c cl k = false := by unfold ss_ok; rw [h]; rfl
theorem ss_ok_a {A B : Nat → Int32} {c k : Nat} {cl : Int32} (h : ss_al A B c k = false) : ss_ok A B c cl k = false := by unfold ss_ok; rw [h, Bool.and_false]
