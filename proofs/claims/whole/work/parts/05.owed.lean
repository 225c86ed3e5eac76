/-- both sides hold the same clauses with the same weights, at most 24, each weight at most 50 (0: a hard clause) -/
def i_Rel (_ : Nat) (u : SX) (v : SY) : Prop := ∃ (c : Nat) (A B : Nat → Int32), u = (nI c, A, B) ∧ v = (nI c, A, B) ∧ c ≤ 24 ∧ ss_W B
theorem i_up {k : Nat} {u : SX} {v : SY} (h : i_Rel k u v) : i_Rel (k + 3) u v := h
theorem i_vc0 : wpX_init (fun u => wpY_init (fun v => i_Rel 0 u v)) := by
  show i_Rel 0 (0, (fun _ => 0), (fun _ => 0)) (0, (fun _ => 0), (fun _ => 0))
  exact ⟨0, (fun _ => 0), (fun _ => 0), rfl, rfl, by omega, ss_W0⟩
theorem i_vc_hard {k : Nat} {u : SX} {v : SY} (I : i_Rel k u v) (hk : k + 3 ≤ 1536) (v1 : Int32) : wpX_hard (fun r u' => wpY_hard (fun r' v' => r' = r ∧ i_Rel (k + 3) u' v') v v1) u v1 := by
  obtain ⟨c, A, B, rfl, rfl, hc, hW⟩ := I
  have hW' : ss_W (upd B c 0) := by
    have t := ss_Wu (k := c) (w := 0) hW (by omega)
    rw [nI_0] at t
    exact t
  unfold wpX_hard
  dsimp only
  refine sx_app hc (fun hl => ?_) (fun he => ?_)
  · unfold wpY_hard
    dsimp only
    refine sy_add hc (fun _ => ?_) (fun he => by omega)
    exact ⟨rfl, c + 1, _, _, rfl, rfl, by omega, hW'⟩
  · unfold wpY_hard
    dsimp only
    refine sy_add hc (fun hl => by omega) (fun _ => ?_)
    exact ⟨rfl, c, A, B, rfl, rfl, hc, hW⟩
theorem i_vc_soft {k : Nat} {u : SX} {v : SY} (I : i_Rel k u v) (hk : k + 3 ≤ 1536) (v1 : Int32) (v2 : Int32) : wpX_soft (fun r u' => wpY_soft (fun r' v' => r' = r ∧ i_Rel (k + 3) u' v') v v1 v2) u v1 v2 := by
  obtain ⟨c, A, B, rfl, rfl, hc, hW⟩ := I
  have hR : i_Rel (k + 3) (nI c, A, B) (nI c, A, B) := ⟨c, A, B, rfl, rfl, hc, hW⟩
  unfold wpX_soft
  dsimp only
  by_cases h1 : v2 < 1
  · refine br_t h1 ?_
    unfold wpY_soft
    dsimp only
    exact br_t h1 ⟨rfl, hR⟩
  · by_cases h50 : v2 ≤ 50
    · have h0 : ¬ v2 < 0 := fun z => h1 (Int32.lt_trans z (by decide))
      obtain ⟨w, hw, rfl⟩ := nI_of2 (M := 50) (n := 50) (by decide) h0 h50
      refine br_f h1 (br_t h50 ?_)
      refine sx_app hc (fun hl => ?_) (fun he => ?_)
      · unfold wpY_soft
        dsimp only
        refine br_f h1 (br_t h50 ?_)
        refine sy_add hc (fun _ => ?_) (fun he => by omega)
        exact ⟨rfl, c + 1, _, _, rfl, rfl, by omega, ss_Wu hW hw⟩
      · unfold wpY_soft
        dsimp only
        refine br_f h1 (br_t h50 ?_)
        refine sy_add hc (fun hl => by omega) (fun _ => ?_)
        exact ⟨rfl, hR⟩
    · refine br_f h1 (br_f h50 ?_)
      unfold wpY_soft
      dsimp only
      exact br_f h1 (br_f h50 ⟨rfl, hR⟩)
theorem i_vc_drop {k : Nat} {u : SX} {v : SY} (I : i_Rel k u v) (hk : k + 3 ≤ 1536) (v1 : Int32) : wpX_drop (fun r u' => wpY_drop (fun r' v' => r' = r ∧ i_Rel (k + 3) u' v') v v1) u v1 := by
  obtain ⟨c, A, B, rfl, rfl, hc, hW⟩ := I
  have hR : i_Rel (k + 3) (nI c, A, B) (nI c, A, B) := ⟨c, A, B, rfl, rfl, hc, hW⟩
  unfold wpX_drop
  dsimp only
  by_cases h0 : v1 < 0
  · refine br_t h0 ?_
    unfold wpY_drop
    dsimp only
    exact br_t h0 ⟨rfl, hR⟩
  · by_cases hlt : v1 < nI c
    · obtain ⟨j, hj, rfl⟩ := nI_of h0
      have hjc : j < c := (nI_ltI hj (by omega)).mp hlt
      obtain ⟨d, rfl⟩ : ∃ d, c = j + d + 1 := ⟨c - j - 1, by omega⟩
      refine br_f h0 (br_t hlt (nm_r (nI_1 j) ⟨d + 1, ?_⟩))
      refine sx_drop_lp _ (j + d) (by omega) d j A B rfl ?_
      unfold wpY_drop
      dsimp only
      refine br_f h0 (br_t hlt (nm_r (nI_pred (j + d)) ⟨d + 1, ?_⟩))
      refine sy_drop_lp _ (j + d) (by omega) d j A B rfl ?_
      exact ⟨rfl, j + d, _, _, rfl, rfl, by omega, ss_Ws d B j hW⟩
    · refine br_f h0 (br_f hlt ?_)
      unfold wpY_drop
      dsimp only
      exact br_f h0 (br_f hlt ⟨rfl, hR⟩)
theorem i_vc_possible {k : Nat} {u : SX} {v : SY} (I : i_Rel k u v) (hk : k + 3 ≤ 1536) : wpX_possible (fun r => wpY_possible (fun r' => r' = r ∧ i_Rel (k + 3) u v) v) u := by
  obtain ⟨c, A, B, rfl, rfl, hc, hW⟩ := I
  have hR : i_Rel (k + 3) (nI c, A, B) (nI c, A, B) := ⟨c, A, B, rfl, rfl, hc, hW⟩
  unfold wpX_possible
  dsimp only
  refine sx_best hc hW ?_
  unfold wpY_possible
  dsimp only
  have hP := ss_S_P A B c 0 256
  cases hs : ss_S A B c 0 256 with
  | none =>
    refine br_t rfl (sy_loss hc hW ?_)
    rw [hs]
    exact br_t ss_neg ⟨rfl, hR⟩
  | some f =>
    rw [hs] at hP
    have hf : f < 256 := hP.1
    refine br_f (ss_m1 (by omega)) (sy_loss hc hW ?_)
    rw [hs]
    exact br_f (nI_pos (ss_ls_lt hc hW f)) ⟨rfl, hR⟩
theorem i_vc_loss {k : Nat} {u : SX} {v : SY} (I : i_Rel k u v) (hk : k + 3 ≤ 1536) : wpX_loss (fun r => wpY_loss (fun r' => r' = r ∧ i_Rel (k + 3) u v) v) u := by
  obtain ⟨c, A, B, rfl, rfl, hc, hW⟩ := I
  have hR : i_Rel (k + 3) (nI c, A, B) (nI c, A, B) := ⟨c, A, B, rfl, rfl, hc, hW⟩
  unfold wpX_loss
  dsimp only
  refine sx_least hc hW ?_
  exact sy_loss hc hW ⟨rfl, hR⟩
theorem i_vc_best {k : Nat} {u : SX} {v : SY} (I : i_Rel k u v) (hk : k + 3 ≤ 1536) : wpX_best (fun r => wpY_best (fun r' => r' = r ∧ i_Rel (k + 3) u v) v) u := by
  obtain ⟨c, A, B, rfl, rfl, hc, hW⟩ := I
  have hR : i_Rel (k + 3) (nI c, A, B) (nI c, A, B) := ⟨c, A, B, rfl, rfl, hc, hW⟩
  unfold wpX_best
  dsimp only
  refine sx_best hc hW ?_
  exact sy_best hc hW ⟨rfl, hR⟩
theorem i_vc_lossWith {k : Nat} {u : SX} {v : SY} (I : i_Rel k u v) (hk : k + 3 ≤ 1536) (v1 : Int32) : wpX_lossWith (fun r => wpY_lossWith (fun r' => r' = r ∧ i_Rel (k + 3) u v) v v1) u v1 := by
  obtain ⟨c, A, B, rfl, rfl, hc, hW⟩ := I
  have hR : i_Rel (k + 3) (nI c, A, B) (nI c, A, B) := ⟨c, A, B, rfl, rfl, hc, hW⟩
  obtain ⟨l, hl, hx⟩ := pk_andE v1 (m := 15) 4 (by decide)
  unfold wpX_lossWith
  dsimp only
  rw [hx]
  refine nm_e ?_
  refine sx_least hc hW ?_
  exact sy_with hl hx (fun b hb => ss_opp b hb l hl) hc hW ⟨rfl, hR⟩
theorem i_vc_lossAgainst {k : Nat} {u : SX} {v : SY} (I : i_Rel k u v) (hk : k + 3 ≤ 1536) (v1 : Int32) : wpX_lossAgainst (fun r => wpY_lossAgainst (fun r' => r' = r ∧ i_Rel (k + 3) u v) v v1) u v1 := by
  obtain ⟨c, A, B, rfl, rfl, hc, hW⟩ := I
  have hR : i_Rel (k + 3) (nI c, A, B) (nI c, A, B) := ⟨c, A, B, rfl, rfl, hc, hW⟩
  unfold wpX_lossAgainst
  dsimp only
  refine sx_least hc hW ?_
  exact sy_against hc hW ⟨rfl, hR⟩
theorem i_vc_kept {k : Nat} {u : SX} {v : SY} (I : i_Rel k u v) (hk : k + 3 ≤ 1536) : wpX_kept (fun r => wpY_kept (fun r' => r' = r ∧ i_Rel (k + 3) u v) v) u := by
  obtain ⟨c, A, B, rfl, rfl, hc, hW⟩ := I
  have hR : i_Rel (k + 3) (nI c, A, B) (nI c, A, B) := ⟨c, A, B, rfl, rfl, hc, hW⟩
  unfold wpX_kept
  dsimp only
  refine sx_best hc hW ?_
  unfold wpY_kept
  dsimp only
  have hP := ss_S_P A B c 0 256
  cases hs : ss_S A B c 0 256 with
  | none =>
    refine br_t rfl (sy_best hc hW ?_)
    rw [hs]
    exact br_f (by decide) ⟨rfl, hR⟩
  | some f =>
    rw [hs] at hP
    have hf : f < 256 := hP.1
    refine br_f (ss_m1 (by omega)) (sx_kp hc (sy_best hc hW ?_))
    rw [hs]
    exact br_t (nI_pos' (by omega)) ⟨c + 1, sy_kp_lp _ A B c f hf hc hW ⟨rfl, hR⟩ c 0 (by omega)⟩
