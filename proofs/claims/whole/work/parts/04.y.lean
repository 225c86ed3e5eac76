/-! the reference: one lemma a private method, with a general post -/
theorem sy_so {post : Int32 → Prop} {l a : Nat} (hl : l < 16) (ha : a < 256) (h1 : ss_so l a = true → post 1) (h0 : ss_so l a = false → post 0) : wpY_so post (nI l) (nI a) := by
  unfold wpY_so
  refine ⟨by decide, by decide, br_c (fun z => h1 ((ss_soY a ha l hl).mp z)) (fun z => h0 ?_)⟩
  cases hb : ss_so l a
  · rfl
  · exact absurd ((ss_soY a ha l hl).mpr hb) z
theorem sy_holds_lp (post : Int32 → Prop) (c : Int32) (a : Nat) (ha : a < 256) (h1 : ss_H c a = true → post 1) (h0 : ss_H c a = false → post 0) : ∀ d l : Nat, l + d = 16 → (∀ j, j < l → bt c j = true → ss_so j a = false) → wY_holds_2 post c (nI a) (d + 1) (nI l) := by
  intro d
  induction d with
  | zero =>
    intro l hl hj
    have e : l = 16 := by omega
    subst e
    exact br_t (nI_le (a := 16) (b := 16) (by omega) (by omega)) (h0 (ss_Hf ha hj))
  | succ d ih =>
    intro l hl hj
    have h16 : l < 16 := by omega
    refine br_f (nI_ge (b := 16) (by omega) (by omega)) ?_
    refine br_c (fun z => sy_so h16 ha (fun hs => br_f (by decide) (h1 (ss_Ht ha h16 ((ss_t1 c l (by omega)).mp z) hs))) (fun hs => br_t rfl (nm_r (nI_1 l) (ih (l + 1) (by omega) ?_)))) (fun z => nm_r (nI_1 l) (ih (l + 1) (by omega) ?_))
    · exact lt_s hj (fun _ => hs)
    · exact lt_s hj (fun hb => absurd ((ss_t1 c l (by omega)).mpr hb) z)
theorem sy_holds {post : Int32 → Prop} {c : Int32} {a : Nat} (ha : a < 256) (h1 : ss_H c a = true → post 1) (h0 : ss_H c a = false → post 0) : wpY_holds post c (nI a) := by
  show ∃ n2 : Nat, wY_holds_2 post c (nI a) n2 0
  exact ⟨17, sy_holds_lp post c a ha h1 h0 16 0 rfl lt_0⟩
theorem sy_sum_lp (post : Int32 → Prop) (A B : Nat → Int32) (c a : Nat) (ha : a < 256) (hc : c ≤ 24) (hW : ss_W B) (h1 : ss_al A B c a = true → post (nI (ss_sm A B a c))) (h0 : ss_al A B c a = false → post (-1)) : ∀ d i : Nat, i + d = c → (∀ j, j < i → ss_H (A j) a = true ∨ ¬ B j = 0) → wY_lossOf_4 post (nI a) (nI c) A B (d + 1) (nI (ss_sm A B a i)) (nI i) := by
  intro d
  induction d with
  | zero =>
    intro i hi hj
    have e : i = c := by omega
    subst e
    exact br_t (nI_le (by omega) (by omega)) (h1 (ss_al_t hj))
  | succ d ih =>
    intro i hi hj
    have ec : (nI i).toNatClampNeg = i := nI_clamp (by omega)
    have hin : vp_in (nI i) 24 := vp_in_nI (by omega) (by omega)
    have ih1 := ih (i + 1) (by omega)
    refine br_f (nI_ge (by omega) (by omega)) ⟨hin, ?_⟩
    rw [ec]
    refine sy_holds ha (fun y => br_f (by decide) (nm_r (nI_1 i) ?_)) (fun y => br_t rfl ⟨hin, br_c (fun z => h0 (ss_al_f (by omega) y z)) (fun z => ⟨hin, nm_r (ss_sm_n hW y) (nm_r (nI_1 i) (ih1 (lt_s hj (Or.inr z))))⟩)⟩)
    rw [ss_sm_y y] at ih1
    exact ih1 (lt_s hj (Or.inl y))
theorem sy_sum {post : Int32 → Prop} {A B : Nat → Int32} {c a : Nat} (ha : a < 256) (hc : c ≤ 24) (hW : ss_W B) (h1 : ss_al A B c a = true → post (nI (ss_ls A B c a))) (h0 : ss_al A B c a = false → post (-1)) : wpY_lossOf post (nI c, A, B) (nI a) := by
  show ∃ n4 : Nat, wY_lossOf_4 post (nI a) (nI c) A B n4 0 0
  exact ⟨c + 1, sy_sum_lp post A B c a ha hc hW h1 h0 c 0 (by omega) lt_0⟩
theorem sy_lesser_n {post : Int32 → Prop} {ls : Nat → Nat} {s : Option Nat} (hb : ∀ b, ls b < 2 ^ 31) (h : post (ss_ge ls s)) : wpY_lesser post (ss_ge ls s) (-1) := by
  unfold wpY_lesser
  cases s with
  | none => exact br_t ss_neg h
  | some f => exact br_f (nI_pos (hb f)) (br_t (by decide) h)
theorem sy_lesser_y {post : Int32 → Prop} {ls : Nat → Nat} {s : Option Nat} {k : Nat} (hb : ∀ b, ls b < 2 ^ 31) (h : post (ss_ge ls (ss_nx ls k s))) : wpY_lesser post (ss_ge ls s) (nI (ls k)) := by
  unfold wpY_lesser
  cases s with
  | none => exact br_t ss_neg h
  | some f =>
    refine br_f (nI_pos (hb f)) (br_f (nI_pos (hb k)) ?_)
    by_cases hl : ls k < ls f
    · have e : ss_nx ls k (some f) = some k := if_pos hl
      rw [e] at h
      exact br_f (nI_ge hl (hb f)) h
    · have e : ss_nx ls k (some f) = some f := if_neg hl
      rw [e] at h
      exact br_t (nI_le (by omega) (hb k)) h
theorem sy_loss_lp (post : Int32 → Prop) (A B : Nat → Int32) (c : Nat) (hc : c ≤ 24) (hW : ss_W B) (h : post (ss_ge (ss_ls A B c) (ss_S A B c 0 256))) : ∀ d k : Nat, k + d = 256 → wY_loss_4 post (nI c) A B (d + 1) (ss_ge (ss_ls A B c) (ss_S A B c 0 k)) (nI k) := by
  intro d
  induction d with
  | zero =>
    intro k hk
    have e : k = 256 := by omega
    subst e
    exact br_t (nI_le (a := 256) (b := 256) (by omega) (by omega)) h
  | succ d ih =>
    intro k hk
    have ih1 := ih (k + 1) (by omega)
    refine br_f (nI_ge (b := 256) (by omega) (by omega)) ?_
    refine sy_sum (by omega) hc hW (fun ha => sy_lesser_y (ss_ls_lt hc hW) (nm_r (nI_1 k) ?_)) (fun ha => sy_lesser_n (ss_ls_lt hc hW) (nm_r (nI_1 k) ?_))
    · rw [ss_S_y (ss_ok_y (ss_H0 k) ha)] at ih1
      exact ih1
    · rw [ss_S_n (ss_ok_a ha)] at ih1
      exact ih1
theorem sy_loss {post : Int32 → Prop} {A B : Nat → Int32} {c : Nat} (hc : c ≤ 24) (hW : ss_W B) (h : post (ss_ge (ss_ls A B c) (ss_S A B c 0 256))) : wpY_loss post (nI c, A, B) := by
  show ∃ n4 : Nat, wY_loss_4 post (nI c) A B n4 (-1) 0
  exact ⟨257, sy_loss_lp post A B c hc hW h 256 0 rfl⟩
theorem sy_with_lp (post : Int32 → Prop) (A B : Nat → Int32) (c l : Nat) (x cl : Int32) (hl : l < 16) (hx : x &&& 15 = nI l) (hcl : ∀ b, b < 256 → ss_H cl b = !ss_so l b) (hc : c ≤ 24) (hW : ss_W B) (h : post (ss_ge (ss_ls A B c) (ss_S A B c cl 256))) : ∀ d k : Nat, k + d = 256 → wY_lossWith_4 post x (nI c) A B (d + 1) (ss_ge (ss_ls A B c) (ss_S A B c cl k)) (nI k) := by
  intro d
  induction d with
  | zero =>
    intro k hk
    have e : k = 256 := by omega
    subst e
    exact br_t (nI_le (a := 256) (b := 256) (by omega) (by omega)) h
  | succ d ih =>
    intro k hk
    have ih1 := ih (k + 1) (by omega)
    have hb : k < 256 := by omega
    have hH := hcl k hb
    refine br_f (nI_ge (b := 256) (by omega) (by omega)) ?_
    rw [hx]
    refine sy_sum hb hc hW (fun ha => sy_so hl hb (fun hs => br_f (by decide) (sy_lesser_y (ss_ls_lt hc hW) (nm_r (nI_1 k) ?_))) (fun hs => br_t rfl (nm_r (nI_1 k) ?_))) (fun ha => sy_so hl hb (fun hs => br_f (by decide) (sy_lesser_n (ss_ls_lt hc hW) (nm_r (nI_1 k) ?_))) (fun hs => br_t rfl (nm_r (nI_1 k) ?_)))
    · rw [hs] at hH
      rw [ss_S_y (ss_ok_y hH ha)] at ih1
      exact ih1
    · rw [hs] at hH
      rw [ss_S_n (ss_ok_h hH)] at ih1
      exact ih1
    · rw [ss_S_n (ss_ok_a ha)] at ih1
      exact ih1
    · rw [ss_S_n (ss_ok_a ha)] at ih1
      exact ih1
theorem sy_with {post : Int32 → Prop} {A B : Nat → Int32} {c l : Nat} {x cl : Int32} (hl : l < 16) (hx : x &&& 15 = nI l) (hcl : ∀ b, b < 256 → ss_H cl b = !ss_so l b) (hc : c ≤ 24) (hW : ss_W B) (h : post (ss_ge (ss_ls A B c) (ss_S A B c cl 256))) : wpY_lossWith post (nI c, A, B) x := by
  show ∃ n4 : Nat, wY_lossWith_4 post x (nI c) A B n4 (-1) 0
  exact ⟨257, sy_with_lp post A B c l x cl hl hx hcl hc hW h 256 0 rfl⟩
theorem sy_against_lp (post : Int32 → Prop) (A B : Nat → Int32) (c : Nat) (x : Int32) (hc : c ≤ 24) (hW : ss_W B) (h : post (ss_ge (ss_ls A B c) (ss_S A B c (x &&& 65535) 256))) : ∀ d k : Nat, k + d = 256 → wY_lossAgainst_4 post x (nI c) A B (d + 1) (ss_ge (ss_ls A B c) (ss_S A B c (x &&& 65535) k)) (nI k) := by
  intro d
  induction d with
  | zero =>
    intro k hk
    have e : k = 256 := by omega
    subst e
    exact br_t (nI_le (a := 256) (b := 256) (by omega) (by omega)) h
  | succ d ih =>
    intro k hk
    have ih1 := ih (k + 1) (by omega)
    have hb : k < 256 := by omega
    refine br_f (nI_ge (b := 256) (by omega) (by omega)) ?_
    refine sy_sum hb hc hW (fun ha => sy_holds hb (fun hs => br_f (by decide) (nm_r (nI_1 k) ?_)) (fun hs => br_t rfl (sy_lesser_y (ss_ls_lt hc hW) (nm_r (nI_1 k) ?_)))) (fun ha => sy_holds hb (fun hs => br_f (by decide) (nm_r (nI_1 k) ?_)) (fun hs => br_t rfl (sy_lesser_n (ss_ls_lt hc hW) (nm_r (nI_1 k) ?_))))
    · rw [ss_S_n (ss_ok_h hs)] at ih1
      exact ih1
    · rw [ss_S_y (ss_ok_y hs ha)] at ih1
      exact ih1
    · rw [ss_S_n (ss_ok_a ha)] at ih1
      exact ih1
    · rw [ss_S_n (ss_ok_a ha)] at ih1
      exact ih1
theorem sy_against {post : Int32 → Prop} {A B : Nat → Int32} {c : Nat} {x : Int32} (hc : c ≤ 24) (hW : ss_W B) (h : post (ss_ge (ss_ls A B c) (ss_S A B c (x &&& 65535) 256))) : wpY_lossAgainst post (nI c, A, B) x := by
  show ∃ n4 : Nat, wY_lossAgainst_4 post x (nI c) A B n4 (-1) 0
  exact ⟨257, sy_against_lp post A B c x hc hW h 256 0 rfl⟩
theorem sy_best_lp (post : Int32 → Prop) (A B : Nat → Int32) (c f : Nat) (hc : c ≤ 24) (hW : ss_W B) (hf : f < 256) (hok : ss_ok A B c 0 f = true) (hlt : ∀ b, b < f → ss_ok A B c 0 b = true → ss_ls A B c f < ss_ls A B c b) (h : post (nI f)) : ∀ d k : Nat, k + d = f → wY_best_7 post (nI (ss_ls A B c f)) (nI c) A B (d + 1) (nI k) := by
  intro d
  induction d with
  | zero =>
    intro k hk
    have e : k = f := by omega
    subst e
    refine br_f (nI_ge (b := 256) (by omega) (by omega)) (br_f (nI_pos (ss_ls_lt hc hW k)) ?_)
    refine sy_sum hf hc hW (fun ha => br_t rfl h) (fun ha => ?_)
    rw [ss_ok_a ha] at hok
    exact absurd hok (by decide)
  | succ d ih =>
    intro k hk
    have ih1 := ih (k + 1) (by omega)
    refine br_f (nI_ge (b := 256) (by omega) (by omega)) (br_f (nI_pos (ss_ls_lt hc hW f)) ?_)
    refine sy_sum (by omega) hc hW (fun ha => br_f ?_ (nm_r (nI_1 k) ih1)) (fun ha => br_f (ss_m1' (ss_ls_lt hc hW f)) (nm_r (nI_1 k) ih1))
    have := hlt k (by omega) (ss_ok_y (ss_H0 k) ha)
    rw [nI_eq (ss_ls_lt hc hW k) (ss_ls_lt hc hW f)]
    omega
theorem sy_best {post : Int32 → Prop} {A B : Nat → Int32} {c : Nat} (hc : c ≤ 24) (hW : ss_W B) (h : post (ss_fe (ss_S A B c 0 256))) : wpY_best post (nI c, A, B) := by
  unfold wpY_best
  dsimp only
  refine sy_loss hc hW ?_
  have hP := ss_S_P A B c 0 256
  revert h hP
  generalize ss_S A B c 0 256 = s
  intro h hP
  cases s with
  | none => exact ⟨1, br_f (by decide) (br_t ss_neg h)⟩
  | some f =>
    obtain ⟨hf, hok, hlt, _⟩ := hP
    exact ⟨f + 1, sy_best_lp post A B c f hc hW hf hok hlt h f 0 (by omega)⟩
theorem sy_kp_lp (post : Int32 → Prop) (A B : Nat → Int32) (c a : Nat) (ha : a < 256) (hc : c ≤ 24) (hW : ss_W B) (h : post (nI (ss_kp A B a c))) : ∀ d i : Nat, i + d = c → wY_kept_15 post (nI a) (nI c) A B (d + 1) (nI (ss_kp A B a i)) (nI i) := by
  intro d
  induction d with
  | zero =>
    intro i hi
    have e : i = c := by omega
    subst e
    exact br_t (nI_le (by omega) (by omega)) h
  | succ d ih =>
    intro i hi
    have ec : (nI i).toNatClampNeg = i := nI_clamp (by omega)
    have hin : vp_in (nI i) 24 := vp_in_nI (by omega) (by omega)
    have ih1 := ih (i + 1) (by omega)
    refine br_f (nI_ge (by omega) (by omega)) ⟨hin, ?_⟩
    rw [ec]
    refine br_c (fun z => nm_r (nI_1 i) ?_) (fun z => ⟨hin, sy_holds ha (fun y => br_f (by decide) (nm_r (ss_kp_y y (fun e => z ((ss_B0 hW i).mpr e))) (nm_r (nI_1 i) ih1))) (fun y => br_t rfl (nm_r (nI_1 i) ?_))⟩)
    · rw [ss_kp_0 ((ss_B0 hW i).mp z)] at ih1
      exact ih1
    · rw [ss_kp_n y] at ih1
      exact ih1
theorem sy_add {post : Int32 → SY → Prop} {A B : Nat → Int32} {c : Nat} {x w : Int32} (hc : c ≤ 24) (h1 : c < 24 → post (nI (c + 1)) (nI (c + 1), upd A c (x &&& 65535), upd B c w)) (h0 : c = 24 → post (-1) (nI c, A, B)) : wpY_add post (nI c, A, B) x w := by
  unfold wpY_add
  dsimp only
  have ec : (nI c).toNatClampNeg = c := nI_clamp (by omega)
  rw [ec]
  refine pk_eq c 24 (fun he => h0 he) (fun he => ?_)
  have hl : c < 24 := by omega
  have hin : vp_in (nI c) 24 := vp_in_nI hl (by omega)
  exact ⟨hin, nm_e ⟨hin, nm_e (nm_r (nI_1 c) (h1 hl))⟩⟩
theorem sy_drop_lp (post : Int32 → SY → Prop) (m : Nat) (hm : m < 24) : ∀ (d j : Nat) (A B : Nat → Int32), j + d = m → post (nI m) (nI m, ss_sh d A j, ss_sh d B j) → wY_drop_26 post (nI m) (d + 1) (nI j) A B := by
  intro d
  induction d with
  | zero =>
    intro j A B hj h
    have e : j = m := by omega
    subst e
    exact br_t (nI_le (by omega) (by omega)) h
  | succ d ih =>
    intro j A B hj h
    have e1 : (nI (j + 1)).toNatClampNeg = j + 1 := nI_clamp (by omega)
    have e0 : (nI j).toNatClampNeg = j := nI_clamp (by omega)
    have i1 : vp_in (nI (j + 1)) 24 := vp_in_nI (by omega) (by omega)
    have i0 : vp_in (nI j) 24 := vp_in_nI (by omega) (by omega)
    refine br_f (nI_ge (by omega) (by omega)) ?_
    rw [nI_1 j, e0, e1]
    exact ⟨i1, i0, nm_e ⟨i1, i0, nm_e (nm_e (ih (j + 1) _ _ (by omega) h))⟩⟩
