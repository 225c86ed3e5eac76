/-! the component: one lemma a private method, with a general post -/
theorem sx_lit_lp (post : Int32 → Prop) (a : Nat) (h : post (ss_L a)) : ∀ d v : Nat, v + d = 8 → wX_literalsOf_4 post (nI a) (d + 1) (ss_Lf a v) (nI v) := by
  intro d
  induction d with
  | zero =>
    intro v hv
    have e : v = 8 := by omega
    subst e
    exact br_t (nI_le (a := 8) (b := 8) (by omega) (by omega)) h
  | succ d ih =>
    intro v hv
    refine br_f (nI_ge (b := 8) (by omega) (by omega)) ?_
    refine nm_e (nm_e (nm_r (nI_1 v) ?_))
    exact ih (v + 1) (by omega)
theorem sx_lit {post : Int32 → Prop} {a : Nat} (h : post (ss_L a)) : wpX_literalsOf post (nI a) := by
  show ∃ n4 : Nat, wX_literalsOf_4 post (nI a) n4 0 0
  exact ⟨9, sx_lit_lp post a h 8 0 rfl⟩
theorem sx_holds {post : Int32 → Prop} {c : Int32} {a : Nat} (h1 : ss_H c a = true → post 1) (h0 : ss_H c a = false → post 0) : wpX_holds post c (nI a) := by
  unfold wpX_holds
  refine sx_lit ?_
  exact br_c (fun z => h0 (ss_hf z)) (fun z => h1 (ss_ht z))
theorem sx_all_lp (post : Int32 → Prop) (A B : Nat → Int32) (c a : Nat) (hc : c ≤ 24) (h1 : ss_al A B c a = true → post 1) (h0 : ss_al A B c a = false → post 0) : ∀ d i : Nat, i + d = c → (∀ j, j < i → ss_H (A j) a = true ∨ ¬ B j = 0) → wX_isAllowed_7 post (ss_L a) (nI c) A B (d + 1) (nI i) := by
  intro d
  induction d with
  | zero =>
    intro i hi hj
    have e : i = c := by omega
    subst e
    exact br_t (nI_le (by omega) (by omega)) (h1 (ss_al_t hj))
  | succ d ih =>
    intro i hi hj
    have ec : (nI i).toNatClampNeg = i := nI_clamp (by omega)
    have hin : vp_in (nI i) 24 := vp_in_nI (by omega) (by omega)
    refine br_f (nI_ge (by omega) (by omega)) ⟨hin, ?_⟩
    rw [ec]
    refine br_c (fun z => ⟨hin, br_c (fun y => h0 (ss_al_f (by omega) (ss_hf y) z)) (fun y => nm_r (nI_1 i) (ih (i + 1) (by omega) ?_))⟩) (fun z => nm_r (nI_1 i) (ih (i + 1) (by omega) ?_))
    · exact lt_s hj (Or.inl (ss_ht y))
    · exact lt_s hj (Or.inr z)
theorem sx_all {post : Int32 → Prop} {A B : Nat → Int32} {c a : Nat} (hc : c ≤ 24) (h1 : ss_al A B c a = true → post 1) (h0 : ss_al A B c a = false → post 0) : wpX_isAllowed post (nI c, A, B) (nI a) := by
  show wpX_literalsOf (fun r_1 => (∃ n7 : Nat, wX_isAllowed_7 post r_1 (nI c) A B n7 0)) (nI a)
  refine sx_lit ⟨c + 1, ?_⟩
  exact sx_all_lp post A B c a hc h1 h0 c 0 (by omega) lt_0
theorem sx_sum_lp (post : Int32 → Prop) (A B : Nat → Int32) (c a : Nat) (hc : c ≤ 24) (hW : ss_W B) (h : post (nI (ss_sm A B a c))) : ∀ d i : Nat, i + d = c → wX_lossOf_10 post (ss_L a) (nI c) A B (d + 1) (nI (ss_sm A B a i)) (nI i) := by
  intro d
  induction d with
  | zero =>
    intro i hi
    have e : i = c := by omega
    subst e
    exact br_t (nI_le (by omega) (by omega)) h
  | succ d ih =>
    intro i hi
    have ec : (nI i).toNatClampNeg = i := nI_clamp (by omega)
    have hin : vp_in (nI i) 24 := vp_in_nI (by omega) (by omega)
    have ih1 := ih (i + 1) (by omega)
    refine br_f (nI_ge (by omega) (by omega)) ⟨hin, ?_⟩
    rw [ec]
    refine br_c (fun z => ⟨hin, nm_r (ss_sm_n hW (ss_hf z)) (nm_r (nI_1 i) ih1)⟩) (fun z => nm_r (nI_1 i) ?_)
    rw [ss_sm_y (ss_ht z)] at ih1
    exact ih1
theorem sx_sum {post : Int32 → Prop} {A B : Nat → Int32} {c a : Nat} (hc : c ≤ 24) (hW : ss_W B) (h : post (nI (ss_ls A B c a))) : wpX_lossOf post (nI c, A, B) (nI a) := by
  show wpX_literalsOf (fun r_1 => (∃ n10 : Nat, wX_lossOf_10 post r_1 (nI c) A B n10 0 0)) (nI a)
  refine sx_lit ⟨c + 1, ?_⟩
  exact sx_sum_lp post A B c a hc hW h c 0 (by omega)
theorem sx_kp_lp (post : Int32 → Prop) (A B : Nat → Int32) (c a : Nat) (hc : c ≤ 24) (h : post (nI (ss_kp A B a c))) : ∀ d i : Nat, i + d = c → wX_softHeldBy_10 post (ss_L a) (nI c) A B (d + 1) (nI (ss_kp A B a i)) (nI i) := by
  intro d
  induction d with
  | zero =>
    intro i hi
    have e : i = c := by omega
    subst e
    exact br_t (nI_le (by omega) (by omega)) h
  | succ d ih =>
    intro i hi
    have ec : (nI i).toNatClampNeg = i := nI_clamp (by omega)
    have hin : vp_in (nI i) 24 := vp_in_nI (by omega) (by omega)
    have ih1 := ih (i + 1) (by omega)
    refine br_f (nI_ge (by omega) (by omega)) ⟨hin, ?_⟩
    rw [ec]
    refine br_c (fun z => nm_r (nI_1 i) ?_) (fun z => ⟨hin, br_c (fun y => nm_r (nI_1 i) ?_) (fun y => nm_r (ss_kp_y (ss_ht y) z) (nm_r (nI_1 i) ih1))⟩)
    · rw [ss_kp_0 z] at ih1
      exact ih1
    · rw [ss_kp_n (ss_hf y)] at ih1
      exact ih1
theorem sx_kp {post : Int32 → Prop} {A B : Nat → Int32} {c a : Nat} (hc : c ≤ 24) (h : post (nI (ss_kp A B a c))) : wpX_softHeldBy post (nI c, A, B) (nI a) := by
  show wpX_literalsOf (fun r_1 => (∃ n10 : Nat, wX_softHeldBy_10 post r_1 (nI c) A B n10 0 0)) (nI a)
  refine sx_lit ⟨c + 1, ?_⟩
  exact sx_kp_lp post A B c a hc h c 0 (by omega)
theorem sx_best_lp (post : Int32 → Prop) (A B : Nat → Int32) (c : Nat) (cl : Int32) (hc : c ≤ 24) (hW : ss_W B) (h : post (ss_fe (ss_S A B c cl 256))) : ∀ d k : Nat, k + d = 256 → wX_bestAgainst_7 post cl (nI c) A B (d + 1) (ss_fe (ss_S A B c cl k)) (ss_le (ss_ls A B c) (ss_S A B c cl k)) (nI k) := by
  intro d
  induction d with
  | zero =>
    intro k hk
    have e : k = 256 := by omega
    subst e
    exact br_t (nI_le (a := 256) (b := 256) (by omega) (by omega)) h
  | succ d ih =>
    intro k hk
    have ih1 := ih (k + 1) (by omega)
    refine br_f (nI_ge (b := 256) (by omega) (by omega)) ?_
    refine sx_holds (fun hh => br_f (by decide) (nm_r (nI_1 k) ?_)) (fun hh => br_t rfl ?_)
    · rw [ss_S_n (ss_ok_h hh)] at ih1
      exact ih1
    · refine sx_all hc (fun ha => br_f (by decide) ?_) (fun ha => br_t rfl (nm_r (nI_1 k) ?_))
      · refine sx_sum hc hW ?_
        rw [ss_S_y (ss_ok_y hh ha)] at ih1
        have hP := ss_S_P A B c cl k
        revert ih1 hP
        generalize ss_S A B c cl k = s
        intro ih1 hP
        cases s with
        | none => exact br_t rfl (nm_r (nI_1 k) ih1)
        | some f =>
          have hf : f < k := hP.1
          refine br_f (ss_m1 (by omega)) ?_
          by_cases hl : ss_ls A B c k < ss_ls A B c f
          · have e : ss_nx (ss_ls A B c) k (some f) = some k := if_pos hl
            rw [e] at ih1
            exact br_f (nI_ge hl (ss_ls_lt hc hW f)) (nm_r (nI_1 k) ih1)
          · have e : ss_nx (ss_ls A B c) k (some f) = some f := if_neg hl
            rw [e] at ih1
            exact br_t (nI_le (by omega) (ss_ls_lt hc hW k)) (nm_r (nI_1 k) ih1)
      · rw [ss_S_n (ss_ok_a ha)] at ih1
        exact ih1
theorem sx_best {post : Int32 → Prop} {A B : Nat → Int32} {c : Nat} {cl : Int32} (hc : c ≤ 24) (hW : ss_W B) (h : post (ss_fe (ss_S A B c cl 256))) : wpX_bestAgainst post (nI c, A, B) cl := by
  show ∃ n7 : Nat, wX_bestAgainst_7 post cl (nI c) A B n7 (-1) 0 0
  exact ⟨257, sx_best_lp post A B c cl hc hW h 256 0 rfl⟩
theorem sx_least {post : Int32 → Prop} {A B : Nat → Int32} {c : Nat} {cl : Int32} (hc : c ≤ 24) (hW : ss_W B) (h : post (ss_ge (ss_ls A B c) (ss_S A B c cl 256))) : wpX_leastLossAgainst post (nI c, A, B) cl := by
  unfold wpX_leastLossAgainst
  dsimp only
  refine sx_best hc hW ?_
  have hP := ss_S_P A B c cl 256
  revert h hP
  generalize ss_S A B c cl 256 = s
  intro h hP
  cases s with
  | none => exact br_t rfl h
  | some f =>
    have hf : f < 256 := hP.1
    exact br_f (ss_m1 (by omega)) (sx_sum hc hW h)
theorem sx_app {post : Int32 → SX → Prop} {A B : Nat → Int32} {c : Nat} {x w : Int32} (hc : c ≤ 24) (h1 : c < 24 → post (nI (c + 1)) (nI (c + 1), upd A c (x &&& 65535), upd B c w)) (h0 : c = 24 → post (-1) (nI c, A, B)) : wpX_append post (nI c, A, B) x w := by
  unfold wpX_append
  dsimp only
  have ec : (nI c).toNatClampNeg = c := nI_clamp (by omega)
  rw [ec]
  refine pk_lt c 24 (fun hl => ?_) (fun hl => h0 (by omega))
  have hin : vp_in (nI c) 24 := vp_in_nI hl (by omega)
  exact ⟨hin, nm_e ⟨hin, nm_e (nm_r (nI_1 c) (h1 hl))⟩⟩
theorem sx_drop_lp (post : Int32 → SX → Prop) (m : Nat) (hm : m < 24) : ∀ (d j : Nat) (A B : Nat → Int32), j + d = m → post (nI m) (nI m, ss_sh d A j, ss_sh d B j) → wX_drop_18 post (nI (m + 1)) (d + 1) (nI (j + 1)) A B := by
  intro d
  induction d with
  | zero =>
    intro j A B hj h
    have e : j = m := by omega
    subst e
    exact br_t (nI_le (by omega) (by omega)) (nm_r (nI_pred j) h)
  | succ d ih =>
    intro j A B hj h
    have e1 : (nI (j + 1)).toNatClampNeg = j + 1 := nI_clamp (by omega)
    have e0 : (nI j).toNatClampNeg = j := nI_clamp (by omega)
    have i1 : vp_in (nI (j + 1)) 24 := vp_in_nI (by omega) (by omega)
    have i0 : vp_in (nI j) 24 := vp_in_nI (by omega) (by omega)
    refine br_f (nI_ge (by omega) (by omega)) ?_
    rw [nI_pred j, e0, e1]
    exact ⟨i1, i0, nm_e ⟨i1, i0, nm_e (nm_r (nI_1 (j + 1)) (ih (j + 1) _ _ (by omega) h))⟩⟩
