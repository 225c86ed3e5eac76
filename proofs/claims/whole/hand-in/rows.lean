section
theorem pk_us {f : Nat → Int32} {k : Nat} {x : Int32} : upd f k x k = x := if_pos rfl
theorem pk_un {f : Nat → Int32} {k j : Nat} {x : Int32} (h : j ≠ k) : upd f k x j = f j := if_neg h
theorem pk_sub {a b : Nat} (h : b ≤ a) : nI a - nI b = nI (a - b) := by
  obtain ⟨c, rfl⟩ : ∃ c, a = c + b := ⟨a - b, by omega⟩
  rw [← nI_add, Int32.add_sub_cancel, Nat.add_sub_cancel]
theorem pk_m1 (n : Nat) : nI (n + 1) + (-1) = nI n := by
  rw [← nI_1, Int32.add_assoc, show (1 : Int32) + (-1) = 0 from rfl, Int32.add_zero]
theorem pk_le {x y : Int32} {A B : Prop} (a b : Nat) (f : a ≤ b → A) (g : b < a → B) (hx : x = nI a := by rfl) (hy : y = nI b := by rfl) (ha : a < 2 ^ 31 := by omega) (hb : b < 2 ^ 31 := by omega) : (x ≤ y → A) ∧ (¬ x ≤ y → B) := by
  subst hx hy
  rw [nI_leI ha hb]
  exact ⟨f, fun z => g (by omega)⟩
theorem pk_lt {x y : Int32} {A B : Prop} (a b : Nat) (f : a < b → A) (g : b ≤ a → B) (hx : x = nI a := by rfl) (hy : y = nI b := by rfl) (ha : a < 2 ^ 31 := by omega) (hb : b < 2 ^ 31 := by omega) : (x < y → A) ∧ (¬ x < y → B) := by
  subst hx hy
  rw [nI_ltI ha hb]
  exact ⟨f, fun z => g (by omega)⟩
theorem pk_eq {x y : Int32} {A B : Prop} (a b : Nat) (f : a = b → A) (g : a ≠ b → B) (hx : x = nI a := by rfl) (hy : y = nI b := by rfl) (ha : a < 2 ^ 31 := by omega) (hb : b < 2 ^ 31 := by omega) : (x = y → A) ∧ (¬ x = y → B) := by
  subst hx hy
  rw [nI_eq ha hb]
  exact ⟨f, g⟩
theorem pk_in {x : Int32} (n N : Nat) (h : n < N) (hx : x = nI n := by rfl) (hN : N < 2 ^ 31 := by omega) : vp_in x N := by
  subst hx
  exact vp_in_nI h hN
theorem pk_cl {x : Int32} (n : Nat) (hx : x = nI n := by rfl) (h : n < 2 ^ 31 := by omega) : x.toNatClampNeg = n := by
  subst hx
  exact nI_clamp h
theorem pk_tn {n : Nat} (h : n < 2 ^ 32) : (nI n).toBitVec.toNat = n := Nat.mod_eq_of_lt h
theorem pk_and (x : Int32) {m : Int32} (k : Nat) (hm : m.toBitVec.toNat = 2 ^ k - 1) : x &&& m = nI (x.toBitVec.toNat % 2 ^ k) := by
  apply Int32.toBitVec_inj.mp
  apply BitVec.eq_of_toNat_eq
  rw [Int32.toBitVec_and, BitVec.toNat_and, hm, Nat.and_two_pow_sub_one_eq_mod]
  show _ = (BitVec.ofNat 32 _).toNat
  rw [BitVec.toNat_ofNat]
  exact (Nat.mod_eq_of_lt (Nat.lt_of_le_of_lt (Nat.mod_le _ _) x.toBitVec.isLt)).symm
theorem pk_andE (x : Int32) {m : Int32} (k : Nat) (hm : m.toBitVec.toNat = 2 ^ k - 1) : ∃ j : Nat, j < 2 ^ k ∧ x &&& m = nI j := ⟨_, Nat.mod_lt _ (Nat.two_pow_pos k), pk_and x k hm⟩
def bt (x : Int32) (i : Nat) : Bool := x.toBitVec.getLsbD i
theorem b_ext {x y : Int32} (h : ∀ i, i < 32 → bt x i = bt y i) : x = y := Int32.toBitVec_inj.mp (BitVec.eq_of_getLsbD_eq (fun i hi => h i hi))
theorem b_or (x y : Int32) (i : Nat) : bt (x ||| y) i = (bt x i || bt y i) := by unfold bt; rw [Int32.toBitVec_or, BitVec.getLsbD_or]
theorem b_and (x y : Int32) (i : Nat) : bt (x &&& y) i = (bt x i && bt y i) := by unfold bt; rw [Int32.toBitVec_and, BitVec.getLsbD_and]
theorem b_xor (x y : Int32) (i : Nat) : bt (x ^^^ y) i = (bt x i ^^ bt y i) := by unfold bt; rw [Int32.toBitVec_xor, BitVec.getLsbD_xor]
theorem b_big {x : Int32} {i : Nat} (h : 32 ≤ i) : bt x i = false := BitVec.getLsbD_of_ge _ _ h
theorem b_0 (i : Nat) : bt 0 i = false := BitVec.getLsbD_zero
theorem s_l : ∀ n, n < 32 → ((nI n &&& 31).toBitVec.smod 32).toNat = n := by decide +kernel
theorem b_sshr (n : Nat) (hn : n < 32) (x : Int32) {i : Nat} (hi : i < 32) : bt (x >>> (nI n &&& 31)) i = if n + i < 32 then bt x (n + i) else bt x 31 := by
  unfold bt
  rw [Int32.toBitVec_shiftRight]
  show (x.toBitVec.sshiftRight ((nI n &&& 31).toBitVec.smod 32).toNat).getLsbD i = _
  rw [s_l n hn, BitVec.getLsbD_sshiftRight, BitVec.msb_eq_getLsbD_last]
  simp [hi]
end
section
/-! pure pictures: literals that are so, when a clause holds, allowed, loss, kept, the scan over the assignments -/
def ss_so (l a : Nat) : Bool := decide (a / 2 ^ (l / 2) % 2 = 1 - l % 2)
def ss_Lf (a : Nat) : Nat → Int32
  | 0 => 0
  | v + 1 => ss_Lf a v ||| ((1 : Int32) <<< ((2 * nI v + (((nI a >>> (nI v &&& 31)) &&& 1) ^^^ 1)) &&& 31))
def ss_L (a : Nat) : Int32 := ss_Lf a 8
def ss_H (c : Int32) (a : Nat) : Bool := decide (¬ (c &&& ss_L a) = 0)
theorem ss_bit : ∀ a, a < 256 → ∀ l, l < 32 → bt (ss_L a) l = (decide (l < 16) && ss_so l a) := by decide +kernel
theorem ss_b1 : ∀ i, i < 32 → bt 1 i = decide (i = 0) := by decide +kernel
theorem ss_tb (c : Int32) (l : Nat) (hl : l < 32) : ((c >>> (nI l &&& 31)) &&& 1) = (if bt c l = true then 1 else 0) := by
  apply b_ext
  intro i hi
  rw [b_and, ss_b1 i hi, b_sshr l hl c hi]
  by_cases h0 : i = 0
  · subst h0
    rw [if_pos (by omega), Nat.add_zero, decide_eq_true rfl, Bool.and_true]
    cases hb : bt c l
    · rw [if_neg (by decide)]; exact (b_0 0).symm
    · rw [if_pos rfl]; exact (ss_b1 0 (by decide)).symm
  · rw [decide_eq_false h0, Bool.and_false]
    cases hb : bt c l
    · rw [if_neg (by decide)]; exact (b_0 i).symm
    · rw [if_pos rfl, ss_b1 i hi, decide_eq_false h0]
theorem ss_t1 (c : Int32) (l : Nat) (hl : l < 32) : ((c >>> (nI l &&& 31)) &&& 1) = 1 ↔ bt c l = true := by
  rw [ss_tb c l hl]
  cases hb : bt c l
  · rw [if_neg (by decide)]; exact ⟨fun z => absurd z (by decide), fun z => absurd z (by decide)⟩
  · rw [if_pos rfl]; exact ⟨fun _ => rfl, fun _ => rfl⟩
theorem ss_Ht {c : Int32} {a l : Nat} (ha : a < 256) (hl : l < 16) (h1 : bt c l = true) (h2 : ss_so l a = true) : ss_H c a = true := by
  apply decide_eq_true
  intro h
  have e := b_and c (ss_L a) l
  rw [h, b_0, h1, ss_bit a ha l (by omega), h2, decide_eq_true hl] at e
  exact absurd e (by decide)
theorem ss_Hf {c : Int32} {a : Nat} (ha : a < 256) (h : ∀ l, l < 16 → bt c l = true → ss_so l a = false) : ss_H c a = false := by
  apply decide_eq_false
  intro hn
  apply hn
  apply b_ext
  intro i hi
  rw [b_and, b_0, ss_bit a ha i hi]
  by_cases h16 : i < 16
  · cases hb : bt c i
    · rfl
    · rw [h i h16 hb, Bool.and_false, Bool.and_false]
  · rw [decide_eq_false h16, Bool.false_and, Bool.and_false]
theorem ss_H0 (a : Nat) : ss_H 0 a = false := by
  apply decide_eq_false
  intro hn
  apply hn
  apply b_ext
  intro i hi
  rw [b_and, b_0, Bool.false_and]
/-- the reference's 'so' of a literal below 16 -/
theorem ss_soY : ∀ a, a < 256 → ∀ l, l < 16 → (((nI a >>> ((nI l / 2) &&& 31)) &&& 1) = 1 - (nI l - nI l / 2 * 2) ↔ ss_so l a = true) := by decide +kernel
/-- the clause of the opposite literal alone -/
theorem ss_opp : ∀ a, a < 256 → ∀ l, l < 16 → ss_H ((1 : Int32) <<< ((nI l ^^^ 1) &&& 31)) a = !ss_so l a := by decide +kernel
/-- weight of clause i as a number -/
def ss_w (B : Nat → Int32) (i : Nat) : Nat := (B i).toNatClampNeg
def ss_W (B : Nat → Int32) : Prop := ∀ i, ∃ w, w ≤ 50 ∧ B i = nI w
def ss_al (A B : Nat → Int32) (c a : Nat) : Bool := decide (∀ i, i < c → ss_H (A i) a = true ∨ ¬ B i = 0)
def ss_sm (A B : Nat → Int32) (a : Nat) : Nat → Nat
  | 0 => 0
  | i + 1 => if ss_H (A i) a = true then ss_sm A B a i else ss_sm A B a i + ss_w B i
def ss_kp (A B : Nat → Int32) (a : Nat) : Nat → Nat
  | 0 => 0
  | i + 1 => if ss_H (A i) a = true ∧ ¬ B i = 0 then ss_kp A B a i + 1 else ss_kp A B a i
theorem ss_wB {B : Nat → Int32} (h : ss_W B) (i : Nat) : ss_w B i ≤ 50 ∧ B i = nI (ss_w B i) := by
  obtain ⟨w, hw, e⟩ := h i
  have e2 : ss_w B i = w := by unfold ss_w; rw [e, nI_clamp (by omega)]
  rw [e2]
  exact ⟨hw, e⟩
theorem ss_sm_le {A B : Nat → Int32} (h : ss_W B) (a : Nat) : ∀ i, ss_sm A B a i ≤ 50 * i := by
  intro i
  induction i with
  | zero => exact Nat.le_refl _
  | succ i ih =>
    have := (ss_wB h i).1
    unfold ss_sm
    split <;> omega
theorem ss_kp_le {A B : Nat → Int32} (a : Nat) : ∀ i, ss_kp A B a i ≤ i := by
  intro i
  induction i with
  | zero => exact Nat.le_refl _
  | succ i ih =>
    unfold ss_kp
    split <;> omega
theorem ss_al_t {A B : Nat → Int32} {c a : Nat} (h : ∀ i, i < c → ss_H (A i) a = true ∨ ¬ B i = 0) : ss_al A B c a = true := decide_eq_true h
theorem ss_al_f {A B : Nat → Int32} {c a i : Nat} (hi : i < c) (h : ss_H (A i) a = false) (h0 : B i = 0) : ss_al A B c a = false := by
  apply decide_eq_false
  intro z
  cases z i hi with
  | inl z => rw [h] at z; exact absurd z (by decide)
  | inr z => exact z h0
/-- the scan: the first of the least among those that are ok -/
def ss_nx (ls : Nat → Nat) (k : Nat) : Option Nat → Option Nat
  | none => some k
  | some f => if ls k < ls f then some k else some f
def ss_sc (ok : Nat → Bool) (ls : Nat → Nat) : Nat → Option Nat
  | 0 => none
  | k + 1 => if ok k = true then ss_nx ls k (ss_sc ok ls k) else ss_sc ok ls k
theorem ss_sc_n {ok : Nat → Bool} {ls : Nat → Nat} {k : Nat} (h : ok k = false) : ss_sc ok ls (k + 1) = ss_sc ok ls k := by
  show (if ok k = true then _ else _) = _
  rw [if_neg (by rw [h]; decide)]
theorem ss_sc_y {ok : Nat → Bool} {ls : Nat → Nat} {k : Nat} (h : ok k = true) : ss_sc ok ls (k + 1) = ss_nx ls k (ss_sc ok ls k) := by
  show (if ok k = true then _ else _) = _
  rw [if_pos h]
theorem ss_sc_c {ok ok' : Nat → Bool} {ls : Nat → Nat} : ∀ k, (∀ b, b < k → ok b = ok' b) → ss_sc ok ls k = ss_sc ok' ls k := by
  intro k
  induction k with
  | zero => intro _; rfl
  | succ k ih =>
    intro h
    have e := ih (fun b hb => h b (by omega))
    have ek := h k (by omega)
    cases hk : ok k
    · rw [ss_sc_n hk, ss_sc_n (ek.symm.trans hk), e]
    · rw [ss_sc_y hk, ss_sc_y (ek.symm.trans hk), e]
def ss_P (ok : Nat → Bool) (ls : Nat → Nat) (k : Nat) : Option Nat → Prop
  | none => ∀ b, b < k → ok b = false
  | some f => f < k ∧ ok f = true ∧ (∀ b, b < f → ok b = true → ls f < ls b) ∧ (∀ b, b < k → ok b = true → ls f ≤ ls b)
theorem ss_sc_P (ok : Nat → Bool) (ls : Nat → Nat) : ∀ k, ss_P ok ls k (ss_sc ok ls k) := by
  intro k
  induction k with
  | zero => intro b hb; omega
  | succ k ih =>
    cases hk : ok k
    · rw [ss_sc_n hk]
      revert ih
      cases ss_sc ok ls k with
      | none =>
        intro ih b hb
        by_cases e : b = k
        · rw [e]; exact hk
        · exact ih b (by omega)
      | some f =>
        intro ih
        obtain ⟨h1, h2, h3, h4⟩ := ih
        refine ⟨by omega, h2, h3, fun b hb hok => ?_⟩
        by_cases e : b = k
        · rw [e, hk] at hok; exact absurd hok (by decide)
        · exact h4 b (by omega) hok
    · rw [ss_sc_y hk]
      revert ih
      cases ss_sc ok ls k with
      | none =>
        intro ih
        refine ⟨by omega, hk, fun b hb hok => ?_, fun b hb hok => ?_⟩
        · rw [ih b hb] at hok; exact absurd hok (by decide)
        · by_cases e : b = k
          · rw [e]; exact Nat.le_refl _
          · rw [ih b (by omega)] at hok; exact absurd hok (by decide)
      | some f =>
        intro ih
        obtain ⟨h1, h2, h3, h4⟩ := ih
        by_cases hl : ls k < ls f
        · have e : ss_nx ls k (some f) = some k := if_pos hl
          rw [e]
          refine ⟨by omega, hk, fun b hb hok => ?_, fun b hb hok => ?_⟩
          · have := h4 b hb hok; omega
          · by_cases e : b = k
            · rw [e]; exact Nat.le_refl _
            · have := h4 b (by omega) hok; omega
        · have e : ss_nx ls k (some f) = some f := if_neg hl
          rw [e]
          refine ⟨by omega, h2, h3, fun b hb hok => ?_⟩
          by_cases e : b = k
          · rw [e]; omega
          · exact h4 b (by omega) hok
def ss_fe : Option Nat → Int32
  | none => -1
  | some f => nI f
def ss_ge (ls : Nat → Nat) : Option Nat → Int32
  | none => -1
  | some f => nI (ls f)
def ss_le (ls : Nat → Nat) : Option Nat → Int32
  | none => 0
  | some f => nI (ls f)
theorem ss_neg : (-1 : Int32) < 0 := by decide
theorem ss_m1 {n : Nat} (h : n < 2 ^ 31) : ¬ nI n = -1 := by
  intro e
  have := nI_pos h
  rw [e] at this
  exact this (by decide)
theorem ss_m1' {n : Nat} (h : n < 2 ^ 31) : ¬ (-1 : Int32) = nI n := fun e => ss_m1 h e.symm
/-- the arrays after a drop's loop of d steps from j on -/
def ss_sh : Nat → (Nat → Int32) → Nat → (Nat → Int32)
  | 0, A, _ => A
  | d + 1, A, j => ss_sh d (upd A j (A (j + 1))) (j + 1)
theorem ss_W0 : ss_W (fun _ => 0) := fun _ => ⟨0, by omega, nI_0.symm⟩
theorem ss_Wu {B : Nat → Int32} {k w : Nat} (h : ss_W B) (hw : w ≤ 50) : ss_W (upd B k (nI w)) := by
  intro i
  by_cases e : i = k
  · rw [e, pk_us]; exact ⟨w, hw, rfl⟩
  · rw [pk_un e]; exact h i
theorem ss_Ws : ∀ (d : Nat) (B : Nat → Int32) (j : Nat), ss_W B → ss_W (ss_sh d B j) := by
  intro d
  induction d with
  | zero => intro B j h; exact h
  | succ d ih =>
    intro B j h
    apply ih
    obtain ⟨w, hw, e⟩ := h (j + 1)
    rw [e]
    exact ss_Wu h hw
theorem ss_sm_y {A B : Nat → Int32} {a i : Nat} (z : ss_H (A i) a = true) : ss_sm A B a (i + 1) = ss_sm A B a i := if_pos z
theorem ss_sm_n {A B : Nat → Int32} {a i : Nat} (hW : ss_W B) (z : ss_H (A i) a = false) : nI (ss_sm A B a i) + B i = nI (ss_sm A B a (i + 1)) := by
  have e : ss_sm A B a (i + 1) = ss_sm A B a i + ss_w B i := if_neg (by rw [z]; decide)
  rw [e, ← nI_add, ← (ss_wB hW i).2]
theorem ss_kp_y {A B : Nat → Int32} {a i : Nat} (z : ss_H (A i) a = true) (z0 : ¬ B i = 0) : nI (ss_kp A B a i) + 1 = nI (ss_kp A B a (i + 1)) := by
  have e : ss_kp A B a (i + 1) = ss_kp A B a i + 1 := if_pos ⟨z, z0⟩
  rw [e, nI_1]
theorem ss_kp_n {A B : Nat → Int32} {a i : Nat} (z : ss_H (A i) a = false) : ss_kp A B a (i + 1) = ss_kp A B a i := if_neg (fun y => by rw [z] at y; exact absurd y.1 (by decide))
theorem ss_kp_0 {A B : Nat → Int32} {a i : Nat} (z : B i = 0) : ss_kp A B a (i + 1) = ss_kp A B a i := if_neg (fun y => y.2 z)
theorem ss_B0 {B : Nat → Int32} (hW : ss_W B) (i : Nat) : B i ≤ 0 ↔ B i = 0 := by
  obtain ⟨w, hw, e⟩ := hW i
  rw [e, ← nI_0, nI_leI (by omega) (by omega), nI_eq (by omega) (by omega)]
  omega
theorem ss_hf {c : Int32} {a : Nat} (z : (c &&& ss_L a) = 0) : ss_H c a = false := decide_eq_false (fun n => n z)
theorem ss_ht {c : Int32} {a : Nat} (z : ¬ (c &&& ss_L a) = 0) : ss_H c a = true := decide_eq_true z
/-- what the search goes by: the clause doesn't hold, and the assignment is allowed -/
def ss_ok (A B : Nat → Int32) (c : Nat) (cl : Int32) (b : Nat) : Bool := !ss_H cl b && ss_al A B c b
def ss_ls (A B : Nat → Int32) (c : Nat) (b : Nat) : Nat := ss_sm A B b c
def ss_S (A B : Nat → Int32) (c : Nat) (cl : Int32) (k : Nat) : Option Nat := ss_sc (ss_ok A B c cl) (ss_ls A B c) k
theorem ss_ls_lt {A B : Nat → Int32} {c : Nat} (hc : c ≤ 24) (hW : ss_W B) (b : Nat) : ss_ls A B c b < 2 ^ 31 := by
  have := ss_sm_le (A := A) hW b c
  unfold ss_ls
  omega
theorem ss_S_y {A B : Nat → Int32} {c k : Nat} {cl : Int32} (h : ss_ok A B c cl k = true) : ss_S A B c cl (k + 1) = ss_nx (ss_ls A B c) k (ss_S A B c cl k) := ss_sc_y h
theorem ss_S_n {A B : Nat → Int32} {c k : Nat} {cl : Int32} (h : ss_ok A B c cl k = false) : ss_S A B c cl (k + 1) = ss_S A B c cl k := ss_sc_n h
theorem ss_S_P (A B : Nat → Int32) (c : Nat) (cl : Int32) (k : Nat) : ss_P (ss_ok A B c cl) (ss_ls A B c) k (ss_S A B c cl k) := ss_sc_P _ _ k
theorem ss_ok_y {A B : Nat → Int32} {c k : Nat} {cl : Int32} (h : ss_H cl k = false) (ha : ss_al A B c k = true) : ss_ok A B c cl k = true := by unfold ss_ok; rw [h, ha]; rfl
theorem ss_ok_h {A B : Nat → Int32} {c k : Nat} {cl : Int32} (h : ss_H cl k = true) : ss_ok A B c cl k = false := by unfold ss_ok; rw [h]; rfl
theorem ss_ok_a {A B : Nat → Int32} {c k : Nat} {cl : Int32} (h : ss_al A B c k = false) : ss_ok A B c cl k = false := by unfold ss_ok; rw [h, Bool.and_false]
end
section
/-! the component: one lemma a private method, with a general post -/
theorem sx_lit_lp (post : Int32 → Prop) (a : Nat) (h : post (ss_L a)) : ∀ d v : Nat, v + d = 8 → wX_literalsOf_4 post (nI a) (d + 1) (ss_Lf a v) (nI v) := by
  intro d
  induction d with
  | zero =>
    intro v hv
    have e : v = 8 := by omega
    subst e
    exact br_t (nI_le (a := 8) (b := 8) (by omega) (by omega)) h
  | succ d ih =>
    intro v hv
    refine br_f (nI_ge (b := 8) (by omega) (by omega)) ?_
    refine nm_e (nm_e (nm_r (nI_1 v) ?_))
    exact ih (v + 1) (by omega)
theorem sx_lit {post : Int32 → Prop} {a : Nat} (h : post (ss_L a)) : wpX_literalsOf post (nI a) := by
  show ∃ n4 : Nat, wX_literalsOf_4 post (nI a) n4 0 0
  exact ⟨9, sx_lit_lp post a h 8 0 rfl⟩
theorem sx_holds {post : Int32 → Prop} {c : Int32} {a : Nat} (h1 : ss_H c a = true → post 1) (h0 : ss_H c a = false → post 0) : wpX_holds post c (nI a) := by
  unfold wpX_holds
  refine sx_lit ?_
  exact br_c (fun z => h0 (ss_hf z)) (fun z => h1 (ss_ht z))
theorem sx_all_lp (post : Int32 → Prop) (A B : Nat → Int32) (c a : Nat) (hc : c ≤ 24) (h1 : ss_al A B c a = true → post 1) (h0 : ss_al A B c a = false → post 0) : ∀ d i : Nat, i + d = c → (∀ j, j < i → ss_H (A j) a = true ∨ ¬ B j = 0) → wX_isAllowed_7 post (ss_L a) (nI c) A B (d + 1) (nI i) := by
  intro d
  induction d with
  | zero =>
    intro i hi hj
    have e : i = c := by omega
    subst e
    exact br_t (nI_le (by omega) (by omega)) (h1 (ss_al_t hj))
  | succ d ih =>
    intro i hi hj
    have ec : (nI i).toNatClampNeg = i := nI_clamp (by omega)
    have hin : vp_in (nI i) 24 := vp_in_nI (by omega) (by omega)
    refine br_f (nI_ge (by omega) (by omega)) ⟨hin, ?_⟩
    rw [ec]
    refine br_c (fun z => ⟨hin, br_c (fun y => h0 (ss_al_f (by omega) (ss_hf y) z)) (fun y => nm_r (nI_1 i) (ih (i + 1) (by omega) ?_))⟩) (fun z => nm_r (nI_1 i) (ih (i + 1) (by omega) ?_))
    · exact lt_s hj (Or.inl (ss_ht y))
    · exact lt_s hj (Or.inr z)
theorem sx_all {post : Int32 → Prop} {A B : Nat → Int32} {c a : Nat} (hc : c ≤ 24) (h1 : ss_al A B c a = true → post 1) (h0 : ss_al A B c a = false → post 0) : wpX_isAllowed post (nI c, A, B) (nI a) := by
  show wpX_literalsOf (fun r_1 => (∃ n7 : Nat, wX_isAllowed_7 post r_1 (nI c) A B n7 0)) (nI a)
  refine sx_lit ⟨c + 1, ?_⟩
  exact sx_all_lp post A B c a hc h1 h0 c 0 (by omega) lt_0
theorem sx_sum_lp (post : Int32 → Prop) (A B : Nat → Int32) (c a : Nat) (hc : c ≤ 24) (hW : ss_W B) (h : post (nI (ss_sm A B a c))) : ∀ d i : Nat, i + d = c → wX_lossOf_10 post (ss_L a) (nI c) A B (d + 1) (nI (ss_sm A B a i)) (nI i) := by
  intro d
  induction d with
  | zero =>
    intro i hi
    have e : i = c := by omega
    subst e
    exact br_t (nI_le (by omega) (by omega)) h
  | succ d ih =>
    intro i hi
    have ec : (nI i).toNatClampNeg = i := nI_clamp (by omega)
    have hin : vp_in (nI i) 24 := vp_in_nI (by omega) (by omega)
    have ih1 := ih (i + 1) (by omega)
    refine br_f (nI_ge (by omega) (by omega)) ⟨hin, ?_⟩
    rw [ec]
    refine br_c (fun z => ⟨hin, nm_r (ss_sm_n hW (ss_hf z)) (nm_r (nI_1 i) ih1)⟩) (fun z => nm_r (nI_1 i) ?_)
    rw [ss_sm_y (ss_ht z)] at ih1
    exact ih1
theorem sx_sum {post : Int32 → Prop} {A B : Nat → Int32} {c a : Nat} (hc : c ≤ 24) (hW : ss_W B) (h : post (nI (ss_ls A B c a))) : wpX_lossOf post (nI c, A, B) (nI a) := by
  show wpX_literalsOf (fun r_1 => (∃ n10 : Nat, wX_lossOf_10 post r_1 (nI c) A B n10 0 0)) (nI a)
  refine sx_lit ⟨c + 1, ?_⟩
  exact sx_sum_lp post A B c a hc hW h c 0 (by omega)
theorem sx_kp_lp (post : Int32 → Prop) (A B : Nat → Int32) (c a : Nat) (hc : c ≤ 24) (h : post (nI (ss_kp A B a c))) : ∀ d i : Nat, i + d = c → wX_softHeldBy_10 post (ss_L a) (nI c) A B (d + 1) (nI (ss_kp A B a i)) (nI i) := by
  intro d
  induction d with
  | zero =>
    intro i hi
    have e : i = c := by omega
    subst e
    exact br_t (nI_le (by omega) (by omega)) h
  | succ d ih =>
    intro i hi
    have ec : (nI i).toNatClampNeg = i := nI_clamp (by omega)
    have hin : vp_in (nI i) 24 := vp_in_nI (by omega) (by omega)
    have ih1 := ih (i + 1) (by omega)
    refine br_f (nI_ge (by omega) (by omega)) ⟨hin, ?_⟩
    rw [ec]
    refine br_c (fun z => nm_r (nI_1 i) ?_) (fun z => ⟨hin, br_c (fun y => nm_r (nI_1 i) ?_) (fun y => nm_r (ss_kp_y (ss_ht y) z) (nm_r (nI_1 i) ih1))⟩)
    · rw [ss_kp_0 z] at ih1
      exact ih1
    · rw [ss_kp_n (ss_hf y)] at ih1
      exact ih1
theorem sx_kp {post : Int32 → Prop} {A B : Nat → Int32} {c a : Nat} (hc : c ≤ 24) (h : post (nI (ss_kp A B a c))) : wpX_softHeldBy post (nI c, A, B) (nI a) := by
  show wpX_literalsOf (fun r_1 => (∃ n10 : Nat, wX_softHeldBy_10 post r_1 (nI c) A B n10 0 0)) (nI a)
  refine sx_lit ⟨c + 1, ?_⟩
  exact sx_kp_lp post A B c a hc h c 0 (by omega)
theorem sx_best_lp (post : Int32 → Prop) (A B : Nat → Int32) (c : Nat) (cl : Int32) (hc : c ≤ 24) (hW : ss_W B) (h : post (ss_fe (ss_S A B c cl 256))) : ∀ d k : Nat, k + d = 256 → wX_bestAgainst_7 post cl (nI c) A B (d + 1) (ss_fe (ss_S A B c cl k)) (ss_le (ss_ls A B c) (ss_S A B c cl k)) (nI k) := by
  intro d
  induction d with
  | zero =>
    intro k hk
    have e : k = 256 := by omega
    subst e
    exact br_t (nI_le (a := 256) (b := 256) (by omega) (by omega)) h
  | succ d ih =>
    intro k hk
    have ih1 := ih (k + 1) (by omega)
    refine br_f (nI_ge (b := 256) (by omega) (by omega)) ?_
    refine sx_holds (fun hh => br_f (by decide) (nm_r (nI_1 k) ?_)) (fun hh => br_t rfl ?_)
    · rw [ss_S_n (ss_ok_h hh)] at ih1
      exact ih1
    · refine sx_all hc (fun ha => br_f (by decide) ?_) (fun ha => br_t rfl (nm_r (nI_1 k) ?_))
      · refine sx_sum hc hW ?_
        rw [ss_S_y (ss_ok_y hh ha)] at ih1
        have hP := ss_S_P A B c cl k
        revert ih1 hP
        generalize ss_S A B c cl k = s
        intro ih1 hP
        cases s with
        | none => exact br_t rfl (nm_r (nI_1 k) ih1)
        | some f =>
          have hf : f < k := hP.1
          refine br_f (ss_m1 (by omega)) ?_
          by_cases hl : ss_ls A B c k < ss_ls A B c f
          · have e : ss_nx (ss_ls A B c) k (some f) = some k := if_pos hl
            rw [e] at ih1
            exact br_f (nI_ge hl (ss_ls_lt hc hW f)) (nm_r (nI_1 k) ih1)
          · have e : ss_nx (ss_ls A B c) k (some f) = some f := if_neg hl
            rw [e] at ih1
            exact br_t (nI_le (by omega) (ss_ls_lt hc hW k)) (nm_r (nI_1 k) ih1)
      · rw [ss_S_n (ss_ok_a ha)] at ih1
        exact ih1
theorem sx_best {post : Int32 → Prop} {A B : Nat → Int32} {c : Nat} {cl : Int32} (hc : c ≤ 24) (hW : ss_W B) (h : post (ss_fe (ss_S A B c cl 256))) : wpX_bestAgainst post (nI c, A, B) cl := by
  show ∃ n7 : Nat, wX_bestAgainst_7 post cl (nI c) A B n7 (-1) 0 0
  exact ⟨257, sx_best_lp post A B c cl hc hW h 256 0 rfl⟩
theorem sx_least {post : Int32 → Prop} {A B : Nat → Int32} {c : Nat} {cl : Int32} (hc : c ≤ 24) (hW : ss_W B) (h : post (ss_ge (ss_ls A B c) (ss_S A B c cl 256))) : wpX_leastLossAgainst post (nI c, A, B) cl := by
  unfold wpX_leastLossAgainst
  dsimp only
  refine sx_best hc hW ?_
  have hP := ss_S_P A B c cl 256
  revert h hP
  generalize ss_S A B c cl 256 = s
  intro h hP
  cases s with
  | none => exact br_t rfl h
  | some f =>
    have hf : f < 256 := hP.1
    exact br_f (ss_m1 (by omega)) (sx_sum hc hW h)
theorem sx_app {post : Int32 → SX → Prop} {A B : Nat → Int32} {c : Nat} {x w : Int32} (hc : c ≤ 24) (h1 : c < 24 → post (nI (c + 1)) (nI (c + 1), upd A c (x &&& 65535), upd B c w)) (h0 : c = 24 → post (-1) (nI c, A, B)) : wpX_append post (nI c, A, B) x w := by
  unfold wpX_append
  dsimp only
  have ec : (nI c).toNatClampNeg = c := nI_clamp (by omega)
  rw [ec]
  refine pk_lt c 24 (fun hl => ?_) (fun hl => h0 (by omega))
  have hin : vp_in (nI c) 24 := vp_in_nI hl (by omega)
  exact ⟨hin, nm_e ⟨hin, nm_e (nm_r (nI_1 c) (h1 hl))⟩⟩
theorem sx_drop_lp (post : Int32 → SX → Prop) (m : Nat) (hm : m < 24) : ∀ (d j : Nat) (A B : Nat → Int32), j + d = m → post (nI m) (nI m, ss_sh d A j, ss_sh d B j) → wX_drop_18 post (nI (m + 1)) (d + 1) (nI (j + 1)) A B := by
  intro d
  induction d with
  | zero =>
    intro j A B hj h
    have e : j = m := by omega
    subst e
    exact br_t (nI_le (by omega) (by omega)) (nm_r (nI_pred j) h)
  | succ d ih =>
    intro j A B hj h
    have e1 : (nI (j + 1)).toNatClampNeg = j + 1 := nI_clamp (by omega)
    have e0 : (nI j).toNatClampNeg = j := nI_clamp (by omega)
    have i1 : vp_in (nI (j + 1)) 24 := vp_in_nI (by omega) (by omega)
    have i0 : vp_in (nI j) 24 := vp_in_nI (by omega) (by omega)
    refine br_f (nI_ge (by omega) (by omega)) ?_
    rw [nI_pred j, e0, e1]
    exact ⟨i1, i0, nm_e ⟨i1, i0, nm_e (nm_r (nI_1 (j + 1)) (ih (j + 1) _ _ (by omega) h))⟩⟩
end
section
/-! the reference: one lemma a private method, with a general post -/
theorem sy_so {post : Int32 → Prop} {l a : Nat} (hl : l < 16) (ha : a < 256) (h1 : ss_so l a = true → post 1) (h0 : ss_so l a = false → post 0) : wpY_so post (nI l) (nI a) := by
  unfold wpY_so
  refine ⟨by decide, by decide, br_c (fun z => h1 ((ss_soY a ha l hl).mp z)) (fun z => h0 ?_)⟩
  cases hb : ss_so l a
  · rfl
  · exact absurd ((ss_soY a ha l hl).mpr hb) z
theorem sy_holds_lp (post : Int32 → Prop) (c : Int32) (a : Nat) (ha : a < 256) (h1 : ss_H c a = true → post 1) (h0 : ss_H c a = false → post 0) : ∀ d l : Nat, l + d = 16 → (∀ j, j < l → bt c j = true → ss_so j a = false) → wY_holds_2 post c (nI a) (d + 1) (nI l) := by
  intro d
  induction d with
  | zero =>
    intro l hl hj
    have e : l = 16 := by omega
    subst e
    exact br_t (nI_le (a := 16) (b := 16) (by omega) (by omega)) (h0 (ss_Hf ha hj))
  | succ d ih =>
    intro l hl hj
    have h16 : l < 16 := by omega
    refine br_f (nI_ge (b := 16) (by omega) (by omega)) ?_
    refine br_c (fun z => sy_so h16 ha (fun hs => br_f (by decide) (h1 (ss_Ht ha h16 ((ss_t1 c l (by omega)).mp z) hs))) (fun hs => br_t rfl (nm_r (nI_1 l) (ih (l + 1) (by omega) ?_)))) (fun z => nm_r (nI_1 l) (ih (l + 1) (by omega) ?_))
    · exact lt_s hj (fun _ => hs)
    · exact lt_s hj (fun hb => absurd ((ss_t1 c l (by omega)).mpr hb) z)
theorem sy_holds {post : Int32 → Prop} {c : Int32} {a : Nat} (ha : a < 256) (h1 : ss_H c a = true → post 1) (h0 : ss_H c a = false → post 0) : wpY_holds post c (nI a) := by
  show ∃ n2 : Nat, wY_holds_2 post c (nI a) n2 0
  exact ⟨17, sy_holds_lp post c a ha h1 h0 16 0 rfl lt_0⟩
theorem sy_sum_lp (post : Int32 → Prop) (A B : Nat → Int32) (c a : Nat) (ha : a < 256) (hc : c ≤ 24) (hW : ss_W B) (h1 : ss_al A B c a = true → post (nI (ss_sm A B a c))) (h0 : ss_al A B c a = false → post (-1)) : ∀ d i : Nat, i + d = c → (∀ j, j < i → ss_H (A j) a = true ∨ ¬ B j = 0) → wY_lossOf_4 post (nI a) (nI c) A B (d + 1) (nI (ss_sm A B a i)) (nI i) := by
  intro d
  induction d with
  | zero =>
    intro i hi hj
    have e : i = c := by omega
    subst e
    exact br_t (nI_le (by omega) (by omega)) (h1 (ss_al_t hj))
  | succ d ih =>
    intro i hi hj
    have ec : (nI i).toNatClampNeg = i := nI_clamp (by omega)
    have hin : vp_in (nI i) 24 := vp_in_nI (by omega) (by omega)
    have ih1 := ih (i + 1) (by omega)
    refine br_f (nI_ge (by omega) (by omega)) ⟨hin, ?_⟩
    rw [ec]
    refine sy_holds ha (fun y => br_f (by decide) (nm_r (nI_1 i) ?_)) (fun y => br_t rfl ⟨hin, br_c (fun z => h0 (ss_al_f (by omega) y z)) (fun z => ⟨hin, nm_r (ss_sm_n hW y) (nm_r (nI_1 i) (ih1 (lt_s hj (Or.inr z))))⟩)⟩)
    rw [ss_sm_y y] at ih1
    exact ih1 (lt_s hj (Or.inl y))
theorem sy_sum {post : Int32 → Prop} {A B : Nat → Int32} {c a : Nat} (ha : a < 256) (hc : c ≤ 24) (hW : ss_W B) (h1 : ss_al A B c a = true → post (nI (ss_ls A B c a))) (h0 : ss_al A B c a = false → post (-1)) : wpY_lossOf post (nI c, A, B) (nI a) := by
  show ∃ n4 : Nat, wY_lossOf_4 post (nI a) (nI c) A B n4 0 0
  exact ⟨c + 1, sy_sum_lp post A B c a ha hc hW h1 h0 c 0 (by omega) lt_0⟩
theorem sy_lesser_n {post : Int32 → Prop} {ls : Nat → Nat} {s : Option Nat} (hb : ∀ b, ls b < 2 ^ 31) (h : post (ss_ge ls s)) : wpY_lesser post (ss_ge ls s) (-1) := by
  unfold wpY_lesser
  cases s with
  | none => exact br_t ss_neg h
  | some f => exact br_f (nI_pos (hb f)) (br_t (by decide) h)
theorem sy_lesser_y {post : Int32 → Prop} {ls : Nat → Nat} {s : Option Nat} {k : Nat} (hb : ∀ b, ls b < 2 ^ 31) (h : post (ss_ge ls (ss_nx ls k s))) : wpY_lesser post (ss_ge ls s) (nI (ls k)) := by
  unfold wpY_lesser
  cases s with
  | none => exact br_t ss_neg h
  | some f =>
    refine br_f (nI_pos (hb f)) (br_f (nI_pos (hb k)) ?_)
    by_cases hl : ls k < ls f
    · have e : ss_nx ls k (some f) = some k := if_pos hl
      rw [e] at h
      exact br_f (nI_ge hl (hb f)) h
    · have e : ss_nx ls k (some f) = some f := if_neg hl
      rw [e] at h
      exact br_t (nI_le (by omega) (hb k)) h
theorem sy_loss_lp (post : Int32 → Prop) (A B : Nat → Int32) (c : Nat) (hc : c ≤ 24) (hW : ss_W B) (h : post (ss_ge (ss_ls A B c) (ss_S A B c 0 256))) : ∀ d k : Nat, k + d = 256 → wY_loss_4 post (nI c) A B (d + 1) (ss_ge (ss_ls A B c) (ss_S A B c 0 k)) (nI k) := by
  intro d
  induction d with
  | zero =>
    intro k hk
    have e : k = 256 := by omega
    subst e
    exact br_t (nI_le (a := 256) (b := 256) (by omega) (by omega)) h
  | succ d ih =>
    intro k hk
    have ih1 := ih (k + 1) (by omega)
    refine br_f (nI_ge (b := 256) (by omega) (by omega)) ?_
    refine sy_sum (by omega) hc hW (fun ha => sy_lesser_y (ss_ls_lt hc hW) (nm_r (nI_1 k) ?_)) (fun ha => sy_lesser_n (ss_ls_lt hc hW) (nm_r (nI_1 k) ?_))
    · rw [ss_S_y (ss_ok_y (ss_H0 k) ha)] at ih1
      exact ih1
    · rw [ss_S_n (ss_ok_a ha)] at ih1
      exact ih1
theorem sy_loss {post : Int32 → Prop} {A B : Nat → Int32} {c : Nat} (hc : c ≤ 24) (hW : ss_W B) (h : post (ss_ge (ss_ls A B c) (ss_S A B c 0 256))) : wpY_loss post (nI c, A, B) := by
  show ∃ n4 : Nat, wY_loss_4 post (nI c) A B n4 (-1) 0
  exact ⟨257, sy_loss_lp post A B c hc hW h 256 0 rfl⟩
theorem sy_with_lp (post : Int32 → Prop) (A B : Nat → Int32) (c l : Nat) (x cl : Int32) (hl : l < 16) (hx : x &&& 15 = nI l) (hcl : ∀ b, b < 256 → ss_H cl b = !ss_so l b) (hc : c ≤ 24) (hW : ss_W B) (h : post (ss_ge (ss_ls A B c) (ss_S A B c cl 256))) : ∀ d k : Nat, k + d = 256 → wY_lossWith_4 post x (nI c) A B (d + 1) (ss_ge (ss_ls A B c) (ss_S A B c cl k)) (nI k) := by
  intro d
  induction d with
  | zero =>
    intro k hk
    have e : k = 256 := by omega
    subst e
    exact br_t (nI_le (a := 256) (b := 256) (by omega) (by omega)) h
  | succ d ih =>
    intro k hk
    have ih1 := ih (k + 1) (by omega)
    have hb : k < 256 := by omega
    have hH := hcl k hb
    refine br_f (nI_ge (b := 256) (by omega) (by omega)) ?_
    rw [hx]
    refine sy_sum hb hc hW (fun ha => sy_so hl hb (fun hs => br_f (by decide) (sy_lesser_y (ss_ls_lt hc hW) (nm_r (nI_1 k) ?_))) (fun hs => br_t rfl (nm_r (nI_1 k) ?_))) (fun ha => sy_so hl hb (fun hs => br_f (by decide) (sy_lesser_n (ss_ls_lt hc hW) (nm_r (nI_1 k) ?_))) (fun hs => br_t rfl (nm_r (nI_1 k) ?_)))
    · rw [hs] at hH
      rw [ss_S_y (ss_ok_y hH ha)] at ih1
      exact ih1
    · rw [hs] at hH
      rw [ss_S_n (ss_ok_h hH)] at ih1
      exact ih1
    · rw [ss_S_n (ss_ok_a ha)] at ih1
      exact ih1
    · rw [ss_S_n (ss_ok_a ha)] at ih1
      exact ih1
theorem sy_with {post : Int32 → Prop} {A B : Nat → Int32} {c l : Nat} {x cl : Int32} (hl : l < 16) (hx : x &&& 15 = nI l) (hcl : ∀ b, b < 256 → ss_H cl b = !ss_so l b) (hc : c ≤ 24) (hW : ss_W B) (h : post (ss_ge (ss_ls A B c) (ss_S A B c cl 256))) : wpY_lossWith post (nI c, A, B) x := by
  show ∃ n4 : Nat, wY_lossWith_4 post x (nI c) A B n4 (-1) 0
  exact ⟨257, sy_with_lp post A B c l x cl hl hx hcl hc hW h 256 0 rfl⟩
theorem sy_against_lp (post : Int32 → Prop) (A B : Nat → Int32) (c : Nat) (x : Int32) (hc : c ≤ 24) (hW : ss_W B) (h : post (ss_ge (ss_ls A B c) (ss_S A B c (x &&& 65535) 256))) : ∀ d k : Nat, k + d = 256 → wY_lossAgainst_4 post x (nI c) A B (d + 1) (ss_ge (ss_ls A B c) (ss_S A B c (x &&& 65535) k)) (nI k) := by
  intro d
  induction d with
  | zero =>
    intro k hk
    have e : k = 256 := by omega
    subst e
    exact br_t (nI_le (a := 256) (b := 256) (by omega) (by omega)) h
  | succ d ih =>
    intro k hk
    have ih1 := ih (k + 1) (by omega)
    have hb : k < 256 := by omega
    refine br_f (nI_ge (b := 256) (by omega) (by omega)) ?_
    refine sy_sum hb hc hW (fun ha => sy_holds hb (fun hs => br_f (by decide) (nm_r (nI_1 k) ?_)) (fun hs => br_t rfl (sy_lesser_y (ss_ls_lt hc hW) (nm_r (nI_1 k) ?_)))) (fun ha => sy_holds hb (fun hs => br_f (by decide) (nm_r (nI_1 k) ?_)) (fun hs => br_t rfl (sy_lesser_n (ss_ls_lt hc hW) (nm_r (nI_1 k) ?_))))
    · rw [ss_S_n (ss_ok_h hs)] at ih1
      exact ih1
    · rw [ss_S_y (ss_ok_y hs ha)] at ih1
      exact ih1
    · rw [ss_S_n (ss_ok_a ha)] at ih1
      exact ih1
    · rw [ss_S_n (ss_ok_a ha)] at ih1
      exact ih1
theorem sy_against {post : Int32 → Prop} {A B : Nat → Int32} {c : Nat} {x : Int32} (hc : c ≤ 24) (hW : ss_W B) (h : post (ss_ge (ss_ls A B c) (ss_S A B c (x &&& 65535) 256))) : wpY_lossAgainst post (nI c, A, B) x := by
  show ∃ n4 : Nat, wY_lossAgainst_4 post x (nI c) A B n4 (-1) 0
  exact ⟨257, sy_against_lp post A B c x hc hW h 256 0 rfl⟩
theorem sy_best_lp (post : Int32 → Prop) (A B : Nat → Int32) (c f : Nat) (hc : c ≤ 24) (hW : ss_W B) (hf : f < 256) (hok : ss_ok A B c 0 f = true) (hlt : ∀ b, b < f → ss_ok A B c 0 b = true → ss_ls A B c f < ss_ls A B c b) (h : post (nI f)) : ∀ d k : Nat, k + d = f → wY_best_7 post (nI (ss_ls A B c f)) (nI c) A B (d + 1) (nI k) := by
  intro d
  induction d with
  | zero =>
    intro k hk
    have e : k = f := by omega
    subst e
    refine br_f (nI_ge (b := 256) (by omega) (by omega)) (br_f (nI_pos (ss_ls_lt hc hW k)) ?_)
    refine sy_sum hf hc hW (fun ha => br_t rfl h) (fun ha => ?_)
    rw [ss_ok_a ha] at hok
    exact absurd hok (by decide)
  | succ d ih =>
    intro k hk
    have ih1 := ih (k + 1) (by omega)
    refine br_f (nI_ge (b := 256) (by omega) (by omega)) (br_f (nI_pos (ss_ls_lt hc hW f)) ?_)
    refine sy_sum (by omega) hc hW (fun ha => br_f ?_ (nm_r (nI_1 k) ih1)) (fun ha => br_f (ss_m1' (ss_ls_lt hc hW f)) (nm_r (nI_1 k) ih1))
    have := hlt k (by omega) (ss_ok_y (ss_H0 k) ha)
    rw [nI_eq (ss_ls_lt hc hW k) (ss_ls_lt hc hW f)]
    omega
theorem sy_best {post : Int32 → Prop} {A B : Nat → Int32} {c : Nat} (hc : c ≤ 24) (hW : ss_W B) (h : post (ss_fe (ss_S A B c 0 256))) : wpY_best post (nI c, A, B) := by
  unfold wpY_best
  dsimp only
  refine sy_loss hc hW ?_
  have hP := ss_S_P A B c 0 256
  revert h hP
  generalize ss_S A B c 0 256 = s
  intro h hP
  cases s with
  | none => exact ⟨1, br_f (by decide) (br_t ss_neg h)⟩
  | some f =>
    obtain ⟨hf, hok, hlt, _⟩ := hP
    exact ⟨f + 1, sy_best_lp post A B c f hc hW hf hok hlt h f 0 (by omega)⟩
theorem sy_kp_lp (post : Int32 → Prop) (A B : Nat → Int32) (c a : Nat) (ha : a < 256) (hc : c ≤ 24) (hW : ss_W B) (h : post (nI (ss_kp A B a c))) : ∀ d i : Nat, i + d = c → wY_kept_15 post (nI a) (nI c) A B (d + 1) (nI (ss_kp A B a i)) (nI i) := by
  intro d
  induction d with
  | zero =>
    intro i hi
    have e : i = c := by omega
    subst e
    exact br_t (nI_le (by omega) (by omega)) h
  | succ d ih =>
    intro i hi
    have ec : (nI i).toNatClampNeg = i := nI_clamp (by omega)
    have hin : vp_in (nI i) 24 := vp_in_nI (by omega) (by omega)
    have ih1 := ih (i + 1) (by omega)
    refine br_f (nI_ge (by omega) (by omega)) ⟨hin, ?_⟩
    rw [ec]
    refine br_c (fun z => nm_r (nI_1 i) ?_) (fun z => ⟨hin, sy_holds ha (fun y => br_f (by decide) (nm_r (ss_kp_y y (fun e => z ((ss_B0 hW i).mpr e))) (nm_r (nI_1 i) ih1))) (fun y => br_t rfl (nm_r (nI_1 i) ?_))⟩)
    · rw [ss_kp_0 ((ss_B0 hW i).mp z)] at ih1
      exact ih1
    · rw [ss_kp_n y] at ih1
      exact ih1
theorem sy_add {post : Int32 → SY → Prop} {A B : Nat → Int32} {c : Nat} {x w : Int32} (hc : c ≤ 24) (h1 : c < 24 → post (nI (c + 1)) (nI (c + 1), upd A c (x &&& 65535), upd B c w)) (h0 : c = 24 → post (-1) (nI c, A, B)) : wpY_add post (nI c, A, B) x w := by
  unfold wpY_add
  dsimp only
  have ec : (nI c).toNatClampNeg = c := nI_clamp (by omega)
  rw [ec]
  refine pk_eq c 24 (fun he => h0 he) (fun he => ?_)
  have hl : c < 24 := by omega
  have hin : vp_in (nI c) 24 := vp_in_nI hl (by omega)
  exact ⟨hin, nm_e ⟨hin, nm_e (nm_r (nI_1 c) (h1 hl))⟩⟩
theorem sy_drop_lp (post : Int32 → SY → Prop) (m : Nat) (hm : m < 24) : ∀ (d j : Nat) (A B : Nat → Int32), j + d = m → post (nI m) (nI m, ss_sh d A j, ss_sh d B j) → wY_drop_26 post (nI m) (d + 1) (nI j) A B := by
  intro d
  induction d with
  | zero =>
    intro j A B hj h
    have e : j = m := by omega
    subst e
    exact br_t (nI_le (by omega) (by omega)) h
  | succ d ih =>
    intro j A B hj h
    have e1 : (nI (j + 1)).toNatClampNeg = j + 1 := nI_clamp (by omega)
    have e0 : (nI j).toNatClampNeg = j := nI_clamp (by omega)
    have i1 : vp_in (nI (j + 1)) 24 := vp_in_nI (by omega) (by omega)
    have i0 : vp_in (nI j) 24 := vp_in_nI (by omega) (by omega)
    refine br_f (nI_ge (by omega) (by omega)) ?_
    rw [nI_1 j, e0, e1]
    exact ⟨i1, i0, nm_e ⟨i1, i0, nm_e (nm_e (ih (j + 1) _ _ (by omega) h))⟩⟩
end
section
/-- both sides hold the same clauses with the same weights, at most 24, each weight at most 50 (0: a hard clause) -/
def i_Rel (_ : Nat) (u : SX) (v : SY) : Prop := ∃ (c : Nat) (A B : Nat → Int32), u = (nI c, A, B) ∧ v = (nI c, A, B) ∧ c ≤ 24 ∧ ss_W B
theorem i_up {k : Nat} {u : SX} {v : SY} (h : i_Rel k u v) : i_Rel (k + 3) u v := h
theorem i_vc0 : wpX_init (fun u => wpY_init (fun v => i_Rel 0 u v)) := by
  show i_Rel 0 (0, (fun _ => 0), (fun _ => 0)) (0, (fun _ => 0), (fun _ => 0))
  exact ⟨0, (fun _ => 0), (fun _ => 0), rfl, rfl, by omega, ss_W0⟩
theorem i_vc_hard {k : Nat} {u : SX} {v : SY} (I : i_Rel k u v) (hk : k + 3 ≤ 1536) (v1 : Int32) : wpX_hard (fun r u' => wpY_hard (fun r' v' => r' = r ∧ i_Rel (k + 3) u' v') v v1) u v1 := by
  obtain ⟨c, A, B, rfl, rfl, hc, hW⟩ := I
  have hW' : ss_W (upd B c 0) := by
    have t := ss_Wu (k := c) (w := 0) hW (by omega)
    rw [nI_0] at t
    exact t
  unfold wpX_hard
  dsimp only
  refine sx_app hc (fun hl => ?_) (fun he => ?_)
  · unfold wpY_hard
    dsimp only
    refine sy_add hc (fun _ => ?_) (fun he => by omega)
    exact ⟨rfl, c + 1, _, _, rfl, rfl, by omega, hW'⟩
  · unfold wpY_hard
    dsimp only
    refine sy_add hc (fun hl => by omega) (fun _ => ?_)
    exact ⟨rfl, c, A, B, rfl, rfl, hc, hW⟩
theorem i_vc_soft {k : Nat} {u : SX} {v : SY} (I : i_Rel k u v) (hk : k + 3 ≤ 1536) (v1 : Int32) (v2 : Int32) : wpX_soft (fun r u' => wpY_soft (fun r' v' => r' = r ∧ i_Rel (k + 3) u' v') v v1 v2) u v1 v2 := by
  obtain ⟨c, A, B, rfl, rfl, hc, hW⟩ := I
  have hR : i_Rel (k + 3) (nI c, A, B) (nI c, A, B) := ⟨c, A, B, rfl, rfl, hc, hW⟩
  unfold wpX_soft
  dsimp only
  by_cases h1 : v2 < 1
  · refine br_t h1 ?_
    unfold wpY_soft
    dsimp only
    exact br_t h1 ⟨rfl, hR⟩
  · by_cases h50 : v2 ≤ 50
    · have h0 : ¬ v2 < 0 := fun z => h1 (Int32.lt_trans z (by decide))
      obtain ⟨w, hw, rfl⟩ := nI_of2 (M := 50) (n := 50) (by decide) h0 h50
      refine br_f h1 (br_t h50 ?_)
      refine sx_app hc (fun hl => ?_) (fun he => ?_)
      · unfold wpY_soft
        dsimp only
        refine br_f h1 (br_t h50 ?_)
        refine sy_add hc (fun _ => ?_) (fun he => by omega)
        exact ⟨rfl, c + 1, _, _, rfl, rfl, by omega, ss_Wu hW hw⟩
      · unfold wpY_soft
        dsimp only
        refine br_f h1 (br_t h50 ?_)
        refine sy_add hc (fun hl => by omega) (fun _ => ?_)
        exact ⟨rfl, hR⟩
    · refine br_f h1 (br_f h50 ?_)
      unfold wpY_soft
      dsimp only
      exact br_f h1 (br_f h50 ⟨rfl, hR⟩)
theorem i_vc_drop {k : Nat} {u : SX} {v : SY} (I : i_Rel k u v) (hk : k + 3 ≤ 1536) (v1 : Int32) : wpX_drop (fun r u' => wpY_drop (fun r' v' => r' = r ∧ i_Rel (k + 3) u' v') v v1) u v1 := by
  obtain ⟨c, A, B, rfl, rfl, hc, hW⟩ := I
  have hR : i_Rel (k + 3) (nI c, A, B) (nI c, A, B) := ⟨c, A, B, rfl, rfl, hc, hW⟩
  unfold wpX_drop
  dsimp only
  by_cases h0 : v1 < 0
  · refine br_t h0 ?_
    unfold wpY_drop
    dsimp only
    exact br_t h0 ⟨rfl, hR⟩
  · by_cases hlt : v1 < nI c
    · obtain ⟨j, hj, rfl⟩ := nI_of h0
      have hjc : j < c := (nI_ltI hj (by omega)).mp hlt
      obtain ⟨d, rfl⟩ : ∃ d, c = j + d + 1 := ⟨c - j - 1, by omega⟩
      refine br_f h0 (br_t hlt (nm_r (nI_1 j) ⟨d + 1, ?_⟩))
      refine sx_drop_lp _ (j + d) (by omega) d j A B rfl ?_
      unfold wpY_drop
      dsimp only
      refine br_f h0 (br_t hlt (nm_r (nI_pred (j + d)) ⟨d + 1, ?_⟩))
      refine sy_drop_lp _ (j + d) (by omega) d j A B rfl ?_
      exact ⟨rfl, j + d, _, _, rfl, rfl, by omega, ss_Ws d B j hW⟩
    · refine br_f h0 (br_f hlt ?_)
      unfold wpY_drop
      dsimp only
      exact br_f h0 (br_f hlt ⟨rfl, hR⟩)
theorem i_vc_possible {k : Nat} {u : SX} {v : SY} (I : i_Rel k u v) (hk : k + 3 ≤ 1536) : wpX_possible (fun r => wpY_possible (fun r' => r' = r ∧ i_Rel (k + 3) u v) v) u := by
  obtain ⟨c, A, B, rfl, rfl, hc, hW⟩ := I
  have hR : i_Rel (k + 3) (nI c, A, B) (nI c, A, B) := ⟨c, A, B, rfl, rfl, hc, hW⟩
  unfold wpX_possible
  dsimp only
  refine sx_best hc hW ?_
  unfold wpY_possible
  dsimp only
  have hP := ss_S_P A B c 0 256
  cases hs : ss_S A B c 0 256 with
  | none =>
    refine br_t rfl (sy_loss hc hW ?_)
    rw [hs]
    exact br_t ss_neg ⟨rfl, hR⟩
  | some f =>
    rw [hs] at hP
    have hf : f < 256 := hP.1
    refine br_f (ss_m1 (by omega)) (sy_loss hc hW ?_)
    rw [hs]
    exact br_f (nI_pos (ss_ls_lt hc hW f)) ⟨rfl, hR⟩
theorem i_vc_loss {k : Nat} {u : SX} {v : SY} (I : i_Rel k u v) (hk : k + 3 ≤ 1536) : wpX_loss (fun r => wpY_loss (fun r' => r' = r ∧ i_Rel (k + 3) u v) v) u := by
  obtain ⟨c, A, B, rfl, rfl, hc, hW⟩ := I
  have hR : i_Rel (k + 3) (nI c, A, B) (nI c, A, B) := ⟨c, A, B, rfl, rfl, hc, hW⟩
  unfold wpX_loss
  dsimp only
  refine sx_least hc hW ?_
  exact sy_loss hc hW ⟨rfl, hR⟩
theorem i_vc_best {k : Nat} {u : SX} {v : SY} (I : i_Rel k u v) (hk : k + 3 ≤ 1536) : wpX_best (fun r => wpY_best (fun r' => r' = r ∧ i_Rel (k + 3) u v) v) u := by
  obtain ⟨c, A, B, rfl, rfl, hc, hW⟩ := I
  have hR : i_Rel (k + 3) (nI c, A, B) (nI c, A, B) := ⟨c, A, B, rfl, rfl, hc, hW⟩
  unfold wpX_best
  dsimp only
  refine sx_best hc hW ?_
  exact sy_best hc hW ⟨rfl, hR⟩
theorem i_vc_lossWith {k : Nat} {u : SX} {v : SY} (I : i_Rel k u v) (hk : k + 3 ≤ 1536) (v1 : Int32) : wpX_lossWith (fun r => wpY_lossWith (fun r' => r' = r ∧ i_Rel (k + 3) u v) v v1) u v1 := by
  obtain ⟨c, A, B, rfl, rfl, hc, hW⟩ := I
  have hR : i_Rel (k + 3) (nI c, A, B) (nI c, A, B) := ⟨c, A, B, rfl, rfl, hc, hW⟩
  obtain ⟨l, hl, hx⟩ := pk_andE v1 (m := 15) 4 (by decide)
  unfold wpX_lossWith
  dsimp only
  rw [hx]
  refine nm_e ?_
  refine sx_least hc hW ?_
  exact sy_with hl hx (fun b hb => ss_opp b hb l hl) hc hW ⟨rfl, hR⟩
theorem i_vc_lossAgainst {k : Nat} {u : SX} {v : SY} (I : i_Rel k u v) (hk : k + 3 ≤ 1536) (v1 : Int32) : wpX_lossAgainst (fun r => wpY_lossAgainst (fun r' => r' = r ∧ i_Rel (k + 3) u v) v v1) u v1 := by
  obtain ⟨c, A, B, rfl, rfl, hc, hW⟩ := I
  have hR : i_Rel (k + 3) (nI c, A, B) (nI c, A, B) := ⟨c, A, B, rfl, rfl, hc, hW⟩
  unfold wpX_lossAgainst
  dsimp only
  refine sx_least hc hW ?_
  exact sy_against hc hW ⟨rfl, hR⟩
theorem i_vc_kept {k : Nat} {u : SX} {v : SY} (I : i_Rel k u v) (hk : k + 3 ≤ 1536) : wpX_kept (fun r => wpY_kept (fun r' => r' = r ∧ i_Rel (k + 3) u v) v) u := by
  obtain ⟨c, A, B, rfl, rfl, hc, hW⟩ := I
  have hR : i_Rel (k + 3) (nI c, A, B) (nI c, A, B) := ⟨c, A, B, rfl, rfl, hc, hW⟩
  unfold wpX_kept
  dsimp only
  refine sx_best hc hW ?_
  unfold wpY_kept
  dsimp only
  have hP := ss_S_P A B c 0 256
  cases hs : ss_S A B c 0 256 with
  | none =>
    refine br_t rfl (sy_best hc hW ?_)
    rw [hs]
    exact br_f (by decide) ⟨rfl, hR⟩
  | some f =>
    rw [hs] at hP
    have hf : f < 256 := hP.1
    refine br_f (ss_m1 (by omega)) (sx_kp hc (sy_best hc hW ?_))
    rw [hs]
    exact br_t (nI_pos' (by omega)) ⟨c + 1, sy_kp_lp _ A B c f hf hc hW ⟨rfl, hR⟩ c 0 (by omega)⟩
end
