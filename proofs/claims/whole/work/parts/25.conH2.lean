/-! Contracts of the heap's collections and of its marking. -/
section CH2
variable {l : Launch} {D : va_G} {Λ : Lam} {σ : Mem} {c : Nat → Nat}
theorem add_keep (c : Nat → Nat) (b q n : Nat) (o : Option Nat) (s : Mem) : ∀ f p, f ≠ 101 → (fAdd b q n o s).2.1 f p = s.1 f p := by
  intro f p hf
  unfold fAdd
  split
  · rfl
  · show (gAdd b q o s).1 f p = _
    unfold gAdd
    rw [upI_ne hf]
    rfl
theorem add_keepQ {b q n b' : Nat} {o : Option Nat} {s : Mem} (h : b' ≠ b) : (fAdd b q n o s).2.1 101 b' = s.1 101 b' := by
  unfold fAdd
  split
  · rfl
  · show (gAdd b q o s).1 101 b' = _
    unfold gAdd
    rw [upI_nq h]
    rfl
theorem add_keepX {b q n q' : Nat} {o : Option Nat} {s : Mem} (h : q' ≠ q) (kd k : Nat) : (fAdd b q n o s).2.2.2 kd q' k = s.2.2 kd q' k := by
  unfold fAdd
  split
  · rfl
  · show (upX s 101 q _ o).2.2 kd q' k = _
    rw [upX_22, if_neg (fun z => h z.2.1)]
theorem add_keepK {b q n : Nat} {o : Option Nat} {s : Mem} {kd : Nat} (h : kd ≠ 101) (q' k : Nat) : (fAdd b q n o s).2.2.2 kd q' k = s.2.2 kd q' k := by
  unfold fAdd
  split
  · rfl
  · show (upX s 101 q _ o).2.2 kd q' k = _
    rw [upX_22, if_neg (fun z => h z.1)]
theorem renew_keep (hL : LayC Λ c) (s : Mem) : ∀ i, (nfold (gRenew1 c) (0, s) i).2.1 101 (c 6) = s.1 101 (c 6) ∧ ∀ k, (nfold (gRenew1 c) (0, s) i).2.2.2 101 (c 7) k = s.2.2 101 (c 7) k
  | 0 => ⟨rfl, fun _ => rfl⟩
  | i + 1 => by
    have ih := renew_keep hL s i
    rw [nfold_s]
    generalize nfold (gRenew1 c) (0, s) i = u at ih
    unfold gRenew1
    split
    · exact ih
    · split
      · exact ⟨(add_keepQ hL.ne26.symm).trans ih.1, fun k => (add_keepX hL.ne37.symm 101 k).trans (ih.2 k)⟩
      · exact ih
theorem c_H_renewYoungOrder {P : Int → Mem → Prop} (hw : WF Λ c σ) (hp : P (fRenew c σ).1 (fRenew c σ).2) : K_H_renewYoungOrder l D Λ σ c P := by
  refine e_H_renewYoungOrder (fun x hl hD hx => ?_)
  subst hl; subst hD
  have hL := hw.ly
  have q0 := hw.q0
  have q1 := hw.q1
  refine u_H_renewYoungOrder_0 hx hL (c_R_empty hw.rowY (by omega) ?_)
  have hw1 := hw.emptyY
  have e6 : (upI σ 101 (c 2) 0).1 101 (c 6) = (σ.1 101 (c 6)) := upI_nq hL.ne26.symm
  have hws : ∀ i, WF Λ c (nfold (gRenew1 c) (0, upI σ 101 (c 2) 0) i).2 := by
    intro i
    refine WF.fold2 (a := ((0 : Int), upI σ 101 (c 2) 0)) hw1 _ (fun i s _ hs => ?_)
    unfold gRenew1
    split
    · exact hs
    · rename_i t ht
      split
      · exact hs.fAddY (hs.ty _ _ _ _ ht)
      · exact hs
  have loop : ∀ n i : Nat, i + n = ((σ.1 101 (c 6))).toNat → N_H_renewYoungOrder_11 x P Λ (nfold (gRenew1 c) (0, upI σ 101 (c 2) 0) i).2 c (nfold (gRenew1 c) (0, upI σ 101 (c 2) 0) i).1 i := by
    intro n
    induction n with
    | zero =>
      intro i hi
      have k := (renew_keep hL (upI σ 101 (c 2) 0) i).1
      rw [e6] at k
      refine u_H_renewYoungOrder_11 hx hL ⟨⟨by omega, by omega⟩, (hws i).rg _ _, fun _ => ?_, fun h => absurd (show (nfold (gRenew1 c) (0, upI σ 101 (c 2) 0) i).2.1 101 (c 6) ≤ (i : Int) by rw [k]; omega) h⟩
      unfold fRenew at hp
      rw [show i = ((σ.1 101 (c 6))).toNat by omega]
      exact hp
    | succ n ih =>
      intro i hi
      have h2 := ih (i + 1) (by omega)
      rw [nfold_s] at h2
      have k := (renew_keep hL (upI σ 101 (c 2) 0) i).1
      rw [e6] at k
      have hs := hws i
      obtain ⟨t, ht⟩ := hs.ql i (by rw [k]; omega)
      generalize nfold (gRenew1 c) (0, upI σ 101 (c 2) 0) i = u at h2 hs ht k ⊢
      have hT := hs.ty _ _ _ _ ht
      refine u_H_renewYoungOrder_11 hx hL ⟨⟨by omega, by omega⟩, hs.rg _ _, fun h => absurd h (by rw [k]; omega), fun _ => ⟨by omega, by omega, t, ht, hT, c_T_isYoung hT (hs.rg _ _) ⟨?_, fun h0 => ?_, fun h0 => ⟨by omega, by omega, ?_⟩⟩⟩⟩
      · split <;> exact ⟨by omega, by omega⟩
      · have hy : ¬ (u.2.1 203 t) = -1 := fun z => by rw [if_pos z] at h0; omega
        have e : gRenew1 c i u = (u.1 + 1, u.2) := by unfold gRenew1; rw [ht]; exact if_neg hy
        rw [e] at h2; exact h2
      · have hy : (u.2.1 203 t) = -1 := by
          by_cases z : (u.2.1 203 t) = -1
          · exact z
          · rw [if_neg z] at h0; exact absurd rfl h0
        have e : gRenew1 c i u = (u.1, (fAdd (c 2) (c 3) 20 (some t) u.2).2) := by unfold gRenew1; rw [ht]; exact if_pos hy
        rw [e] at h2
        have e3 : u.2.2.2 101 (c 7) ((i : Int)).toNat = some t := ht
        rw [e3]
        exact c_R_add hs.rowY (by omega) hs.rg hs.y0 (fun t' e => by cases e; exact hT) h2
  exact loop ((σ.1 101 (c 6))).toNat 0 (by omega)
theorem c_H_cleanCards {P : Mem → Prop} (hw : WF Λ c σ) (hp : P (gClean Λ c σ)) : K_H_cleanCards l D Λ σ c P := by
  refine w_H_cleanCards hw.ly (c_O_cardsReferringToYoung hw ?_)
  unfold gClean at hp
  simp only at hp
  refine ⟨(hw.upT (f := 304) (q := c 0) (by decide) (by decide) (by decide) (rng_and _ _)).rg _ _, fun h => ?_, fun h => ?_⟩
  · rw [if_neg h] at hp; exact hp
  · rw [if_pos h] at hp; exact hp
theorem gClose1_stop {i : Nat} {s : Mem} (h : ¬ (i : Int) < (s.1 101 (c 6))) : gClose1 Λ c i s = s := by unfold gClose1; rw [if_neg h]
theorem gFind1_stop {i : Nat} {s : Mem} (h : ¬ (i : Int) < (s.1 101 (c 6))) : gFind1 Λ c i s = s := by unfold gFind1; rw [if_neg h]
theorem gScan1_stop {i : Nat} {u : Int × Mem} (h : fGrey c u.2 = none) : gScan1 Λ c i u = u := by unfold gScan1; rw [h]
theorem c_H_collectYoung {P : Int → Mem → Prop} (hw : WF Λ c σ) (hp : P (fYoung Λ c σ).1 (fYoung Λ c σ).2) : K_H_collectYoung l D Λ σ c P := by
  refine e_H_collectYoung (fun x hl hD hx => ?_)
  subst hl; subst hD
  have hL := hw.ly
  refine u_H_collectYoung_0 hx hL ?_
  generalize hdb : (σ.1 304 (c 0)) = db
  have hw1 : ∀ i, WF Λ c (nfold (gRoots1 Λ c) σ i) := fun i => hw.fold _ (fun r s _ hs => hs.reachY (fun t' e => hs.ty _ _ _ _ e))
  have hw2 : WF Λ c (nfold (gCards1 Λ c db) (nfold (gRoots1 Λ c) σ 6) 64) := (hw1 6).fold _ (fun a s _ hs => hs.cards1 a)
  have hw3 : ∀ i, WF Λ c (nfold (gClose1 Λ c) (nfold (gCards1 Λ c db) (nfold (gRoots1 Λ c) σ 6) 64) i) := fun i => hw2.fold _ (fun i s _ hs => hs.close1 i)
  have ef : gReachAllY Λ c σ = nfold (gClose1 Λ c) (nfold (gCards1 Λ c db) (nfold (gRoots1 Λ c) σ 6) 64) 84 := by unfold gReachAllY; rw [hdb]
  have fin : N_H_collectYoung_72 x P Λ (gReachAllY Λ c σ) c := by
    have h3 := hw.reachAllY
    have h4 := h3.drop
    have h5 := h4.renew
    unfold fYoung fYng1 at hp
    dsimp only at hp
    refine u_H_collectYoung_72 hx hL (c_H_dropUnreachedYoung h3 (c_H_renewYoungOrder h4 ?_))
    generalize fRenew c (gDrop c (gReachAllY Λ c σ)) = u at hp h5 ⊢
    have h6 := h5.letGo
    exact c_R_letGo h5.rowQ (by omega) h5.ty h5.rg h5.q0 h5.q1 h5.ql (c_H_cleanCards h6 hp)
  have loop3 : ∀ n i : Nat, i + n = 84 → N_H_collectYoung_36 x P Λ (nfold (gClose1 Λ c) (nfold (gCards1 Λ c db) (nfold (gRoots1 Λ c) σ 6) 64) i) c i := by
    intro n
    induction n with
    | zero =>
      intro i hi
      refine u_H_collectYoung_36 hx hL ⟨⟨by omega, by omega⟩, fun _ => ?_, fun h => absurd h (by omega)⟩
      rw [show i = 84 by omega, ← ef]
      exact fin
    | succ n ih =>
      intro i hi
      have h2 := ih (i + 1) (by omega)
      rw [nfold_s] at h2
      have hs := hw3 i
      refine u_H_collectYoung_36 hx hL ⟨⟨by omega, by omega⟩, fun h => absurd h (by omega), fun _ => ⟨hs.rg _ _, fun h => ?_, fun h => ⟨by omega, by omega, ?_⟩⟩⟩
      · have e : nfold (gClose1 Λ c) (nfold (gCards1 Λ c db) (nfold (gRoots1 Λ c) σ 6) 64) 84 = nfold (gClose1 Λ c) (nfold (gCards1 Λ c db) (nfold (gRoots1 Λ c) σ 6) 64) i := by
          refine nfold_stop (fun j hj => ?_) 84 (by omega)
          exact gClose1_stop (by omega)
        rw [← e, ← ef]
        exact fin
      · obtain ⟨t, ht⟩ := hs.ql i (by omega)
        generalize nfold (gClose1 Λ c) (nfold (gCards1 Λ c db) (nfold (gRoots1 Λ c) σ 6) 64) i = s at h2 hs ht h ⊢
        have e : gClose1 Λ c i s = gFields Λ c t s := by unfold gClose1; rw [if_pos (by omega), ht]
        rw [e] at h2
        have e3 : s.2.2 101 (c 7) ((i : Int)).toNat = some t := ht
        rw [e3]
        exact c_H_reachFields hs (hs.ty _ _ _ _ ht) h2
  have loop1 : ∀ n i : Nat, i + n = 6 → N_H_collectYoung_7 x P Λ (nfold (gRoots1 Λ c) σ i) c db i := by
    intro n
    induction n with
    | zero =>
      intro i hi
      refine u_H_collectYoung_7 hx hL ⟨⟨by omega, by omega⟩, fun _ => ?_, fun h => absurd h (by omega)⟩
      rw [show i = 6 by omega]
      have h0 := loop3 84 0 rfl
      rw [nfold_0] at h0
      exact c_H_reachFromCards (hw1 6) h0
    | succ n ih =>
      intro i hi
      have h2 := ih (i + 1) (by omega)
      rw [nfold_s] at h2
      have hs := hw1 i
      refine u_H_collectYoung_7 hx hL ⟨⟨by omega, by omega⟩, fun h => absurd h (by omega), fun _ => ⟨by omega, by omega, c_H_reachYoung hs (fun t' e => hs.ty _ _ _ _ e) h2⟩⟩
  exact loop1 6 0 rfl
theorem c_H_findReachable {P : Mem → Prop} (hw : WF Λ c σ) (hp : P (gFindAll Λ c σ)) : K_H_findReachable l D Λ σ c P := by
  refine e_H_findReachable (fun x hl hD hx => ?_)
  subst hl; subst hD
  have hL := hw.ly
  refine u_H_findReachable_0 hx hL ?_
  have hw1 : ∀ i, WF Λ c (nfold (gFindR c) σ i) := fun i => hw.fold _ (fun r s _ hs => hs.reach (fun t' e => hs.ty _ _ _ _ e))
  have hw2 : ∀ i, WF Λ c (nfold (gFind1 Λ c) (nfold (gFindR c) σ 6) i) := by
    intro i
    refine (hw1 6).fold _ (fun i s _ hs => ?_)
    unfold gFind1
    split
    · split
      · exact hs
      · exact hs.fold _ (fun k s2 _ hs2 => hs2.reach (fun t' e => hs2.ty _ _ _ _ e))
    · exact hs
  have loop2 : ∀ n i : Nat, i + n = 84 → N_H_findReachable_30 x P Λ (nfold (gFind1 Λ c) (nfold (gFindR c) σ 6) i) c i := by
    intro n
    induction n with
    | zero =>
      intro i hi
      refine u_H_findReachable_30 hx hL ⟨⟨by omega, by omega⟩, fun _ => ?_, fun h => absurd h (by omega)⟩
      rw [show i = 84 by omega]
      exact hp
    | succ n ih =>
      intro i hi
      have h2 := ih (i + 1) (by omega)
      rw [nfold_s] at h2
      have hs := hw2 i
      refine u_H_findReachable_30 hx hL ⟨⟨by omega, by omega⟩, fun h => absurd h (by omega), fun _ => ⟨hs.rg _ _, fun h => ?_, fun h => ⟨by omega, by omega, ?_⟩⟩⟩
      · have e : gFindAll Λ c σ = nfold (gFind1 Λ c) (nfold (gFindR c) σ 6) i := by
          refine nfold_stop (fun j hj => ?_) 84 (by omega)
          exact gFind1_stop (by omega)
        rw [← e]
        exact hp
      · obtain ⟨t, ht⟩ := hs.ql i (by omega)
        generalize nfold (gFind1 Λ c) (nfold (gFindR c) σ 6) i = s at h2 hs ht h ⊢
        have hT := hs.ty _ _ _ _ ht
        have hn := hT.2.2
        have e : gFind1 Λ c i s = nfold (gFindF Λ c t) s (nfL Λ t) := by unfold gFind1; rw [if_pos (by omega), ht]
        rw [e] at h2
        have e3 : s.2.2 101 (c 7) ((i : Int)).toNat = some t := ht
        rw [e3]
        have hw4 : ∀ j, WF Λ c (nfold (gFindF Λ c t) s j) := fun j => hs.fold _ (fun k s2 _ hs2 => hs2.reach (fun t' e => hs2.ty _ _ _ _ e))
        have loop3 : ∀ m j : Nat, j + m = nfL Λ t → N_H_findReachable_59 x P Λ (nfold (gFindF Λ c t) s j) c i (some t) j := by
          intro m
          induction m with
          | zero =>
            intro j hj
            refine u_H_findReachable_59 hx hL ⟨t, rfl, hT, ⟨by omega, by omega⟩, ⟨by omega, by omega⟩, fun _ => ?_, fun h => absurd (show ((nfL Λ t : Nat) : Int) ≤ j by omega) h⟩
            rw [show j = nfL Λ t by omega]
            exact h2
          | succ m ihm =>
            intro j hj
            have h5 := ihm (j + 1) (by omega)
            rw [nfold_s] at h5
            have hs5 := hw4 j
            refine u_H_findReachable_59 hx hL ⟨t, rfl, hT, ⟨by omega, by omega⟩, ⟨by omega, by omega⟩, fun h => absurd h (by omega), fun _ => ⟨by omega, by omega, c_R_reach hs5.rowQ (by omega) hs5.rg hs5.q0 (fun t' e => hs5.ty _ _ _ _ e) h5⟩⟩
        exact loop3 (nfL Λ t) 0 (by omega)
  have loop1 : ∀ n i : Nat, i + n = 6 → N_H_findReachable_2 x P Λ (nfold (gFindR c) σ i) c i := by
    intro n
    induction n with
    | zero =>
      intro i hi
      refine u_H_findReachable_2 hx hL ⟨⟨by omega, by omega⟩, fun _ => ?_, fun h => absurd h (by omega)⟩
      rw [show i = 6 by omega]
      have h0 := loop2 84 0 rfl
      rw [nfold_0] at h0
      exact h0
    | succ n ih =>
      intro i hi
      have h2 := ih (i + 1) (by omega)
      rw [nfold_s] at h2
      have hs := hw1 i
      refine u_H_findReachable_2 hx hL ⟨⟨by omega, by omega⟩, fun h => absurd h (by omega), fun _ => ⟨by omega, by omega, c_R_reach hs.rowQ (by omega) hs.rg hs.q0 (fun t' e => hs.ty _ _ _ _ e) h2⟩⟩
  exact loop1 6 0 rfl
theorem addX_some {b q n : Nat} {t : Nat} {s : Mem} {k : Nat} (h : ∃ t', s.2.2 101 q k = some t') : ∃ t', (fAdd b q n (some t) s).2.2.2 101 q k = some t' := by
  unfold fAdd
  split
  · exact h
  · show ∃ t', (upX s 101 q _ (some t)).2.2 101 q k = some t'
    rw [upX_22]
    split
    · exact ⟨t, rfl⟩
    · exact h
theorem keep_some {s : Mem} {k : Nat} (h : ∃ t', s.2.2 101 (c 3) k = some t') : ∀ i, ∃ t', (nfold (gKeep1 c) s i).2.2 101 (c 3) k = some t'
  | 0 => h
  | i + 1 => by
    have ih := keep_some (s := s) (k := k) h i
    rw [nfold_s]
    unfold gKeep1
    split
    · exact ih
    · split
      · exact addX_some ih
      · exact ih
theorem c_H_keepReachedYoung {P : Mem → Prop} (hw : WF Λ c σ) (hp : P (gKeep c σ)) : K_H_keepReachedYoung l D Λ σ c P := by
  refine e_H_keepReachedYoung (fun x hl hD hx => ?_)
  subst hl; subst hD
  have hL := hw.ly
  have hw1 := hw.drop
  have y0 := hw1.y0
  have y1 := hw1.y1
  refine u_H_keepReachedYoung_0 hx hL (c_H_dropUnreachedYoung hw (c_R_empty hw1.rowY (by omega) ?_))
  have hws : ∀ i, WF Λ c (nfold (gKeep1 c) (upI (gDrop c σ) 101 (c 2) 0) i) := by
    intro i
    refine WF.fold hw1.emptyY _ (fun i s _ hs => ?_)
    unfold gKeep1
    split
    · exact hs
    · rename_i t ht
      split
      · exact hs.fAddY (hs.ty _ _ _ _ ht)
      · exact hs
  have loop : ∀ n i : Nat, i + n = (((gDrop c σ).1 101 (c 2))).toNat → N_H_keepReachedYoung_21 x P Λ (nfold (gKeep1 c) (upI (gDrop c σ) 101 (c 2) 0) i) c (((gDrop c σ).1 101 (c 2))) i := by
    intro n
    induction n with
    | zero =>
      intro i hi
      refine u_H_keepReachedYoung_21 hx hL ⟨⟨by omega, by omega⟩, hw1.rg _ _, fun _ => ?_, fun h => by omega⟩
      rw [show i = (((gDrop c σ).1 101 (c 2))).toNat by omega]
      exact hp
    | succ n ih =>
      intro i hi
      have h2 := ih (i + 1) (by omega)
      rw [nfold_s] at h2
      have hs := hws i
      obtain ⟨t, ht⟩ := keep_some (s := upI (gDrop c σ) 101 (c 2) 0) (k := i) (hw1.yl i (by omega)) i
      generalize nfold (gKeep1 c) (upI (gDrop c σ) 101 (c 2) 0) i = s at h2 hs ht ⊢
      have hT := hs.ty _ _ _ _ ht
      refine u_H_keepReachedYoung_21 hx hL ⟨⟨by omega, by omega⟩, hw1.rg _ _, fun h => by omega, fun _ => ⟨by omega, by omega, t, ht, hT, hs.rg _ _, fun h0 => ?_, fun h0 => ⟨by omega, by omega, ?_⟩⟩⟩
      · have e : gKeep1 c i s = s := by unfold gKeep1; rw [ht]; exact if_neg (fun z => z h0)
        rw [e] at h2; exact h2
      · have e : gKeep1 c i s = (fAdd (c 2) (c 3) 20 (some t) s).2 := by unfold gKeep1; rw [ht]; exact if_pos h0
        rw [e] at h2
        have e3 : s.2.2 101 (c 3) ((i : Int)).toNat = some t := ht
        rw [e3]
        exact c_R_add hs.rowY (by omega) hs.rg hs.y0 (fun t' e => by cases e; exact hT) h2
  exact loop (((gDrop c σ).1 101 (c 2))).toNat 0 (by omega)
theorem c_H_shade {o : Option Nat} {P : Int → Mem → Prop} (rg : ∀ f q, rng (σ.1 f q)) (ho : ∀ t, o = some t → isT Λ t) (hp : P (fShade o σ).1 (fShade o σ).2) : K_H_shade l D Λ σ o P := by
  refine w_H_shade ⟨fun h => ?_, fun t h => ⟨ho t h, c_T_isOld (ho t h) (rg _ _) ?_⟩⟩
  · subst h; exact hp
  · subst h
    unfold fShade at hp
    simp only at hp
    by_cases hy : 0 ≤ (σ.1 203 t)
    · rw [if_pos hy]
      refine ⟨⟨by omega, by omega⟩, fun h => absurd h (by decide), fun _ => ⟨rg _ _, fun h0 => ?_, fun h0 => ?_⟩⟩
      · rw [if_pos ⟨hy, h0⟩] at hp; exact hp
      · rw [if_neg (fun z => h0 z.2)] at hp; exact hp
    · rw [if_neg hy]
      refine ⟨rng_0, fun _ => ?_, fun h => absurd rfl h⟩
      rw [if_neg (fun z => hy z.1)] at hp; exact hp
theorem c_H_shadeFields {t : Nat} {P : Int → Mem → Prop} (hw : WF Λ c σ) (ht : isT Λ t) (hp : P (fShadeF Λ t σ).1 (fShadeF Λ t σ).2) : K_H_shadeFields l D Λ σ (some t) P := by
  refine e_H_shadeFields (fun x hl hD hx => ?_)
  subst hl; subst hD
  have hn := ht.2.2
  refine u_H_shadeFields_0 hx ?_
  have hws : ∀ i, WF Λ c (nfold (gShF1 Λ t) (0, σ) i).2 := fun i => WF.fold2 (a := ((0 : Int), σ)) hw _ (fun i s _ hs => shade_wf hs _)
  have loop : ∀ n i : Nat, i + n = nfL Λ t → N_H_shadeFields_4 x P Λ (nfold (gShF1 Λ t) (0, σ) i).2 (some t) (nfold (gShF1 Λ t) (0, σ) i).1 i := by
    intro n
    induction n with
    | zero =>
      intro i hi
      refine u_H_shadeFields_4 hx ⟨t, rfl, ht, ⟨by omega, by omega⟩, ⟨by omega, by omega⟩, fun _ => ?_, fun h => absurd (show ((nfL Λ t : Nat) : Int) ≤ i by omega) h⟩
      rw [show i = nfL Λ t by omega]
      exact hp
    | succ n ih =>
      intro i hi
      have h2 := ih (i + 1) (by omega)
      rw [nfold_s] at h2
      have hs := hws i
      refine u_H_shadeFields_4 hx ⟨t, rfl, ht, ⟨by omega, by omega⟩, ⟨by omega, by omega⟩, fun h => absurd h (by omega), fun _ => ⟨by omega, by omega, c_H_shade hs.rg (fun t' e => hs.ty _ _ _ _ e) h2⟩⟩
  exact loop (nfL Λ t) 0 (by omega)
theorem c_H_shadeFromRoots {P : Int → Mem → Prop} (hw : WF Λ c σ) (hp : P (fShadeR c σ).1 (fShadeR c σ).2) : K_H_shadeFromRoots l D Λ σ c P := by
  refine e_H_shadeFromRoots (fun x hl hD hx => ?_)
  subst hl; subst hD
  have hL := hw.ly
  refine u_H_shadeFromRoots_0 hx hL ?_
  have hws : ∀ i, WF Λ c (nfold (gShR1 c) (0, σ) i).2 := fun i => WF.fold2 (a := ((0 : Int), σ)) hw _ (fun i s _ hs => shade_wf hs _)
  have loop : ∀ n i : Nat, i + n = 6 → N_H_shadeFromRoots_4 x P Λ (nfold (gShR1 c) (0, σ) i).2 c (nfold (gShR1 c) (0, σ) i).1 i := by
    intro n
    induction n with
    | zero =>
      intro i hi
      refine u_H_shadeFromRoots_4 hx hL ⟨⟨by omega, by omega⟩, fun _ => ?_, fun h => absurd h (by omega)⟩
      rw [show i = 6 by omega]
      exact hp
    | succ n ih =>
      intro i hi
      have h2 := ih (i + 1) (by omega)
      rw [nfold_s] at h2
      have hs := hws i
      refine u_H_shadeFromRoots_4 hx hL ⟨⟨by omega, by omega⟩, fun h => absurd h (by omega), fun _ => ⟨by omega, by omega, c_H_shade hs.rg (fun t' e => hs.ty _ _ _ _ e) h2⟩⟩
  exact loop 6 0 rfl
theorem shade_keep (o : Option Nat) (s : Mem) : (fShade o s).2.2 = s.2 ∧ ∀ f p, f ≠ 204 → f ≠ 205 → (fShade o s).2.1 f p = s.1 f p := by
  unfold fShade
  split
  · exact ⟨rfl, fun _ _ _ _ => rfl⟩
  · split
    · refine ⟨rfl, fun f p h1 h2 => ?_⟩
      rw [upI_ne h2, upI_ne h1]
    · exact ⟨rfl, fun _ _ _ _ => rfl⟩
theorem shadeF_keep (Λ : Lam) (t : Nat) (s : Mem) : (fShadeF Λ t s).2.2 = s.2 ∧ ∀ f p, f ≠ 204 → f ≠ 205 → (fShadeF Λ t s).2.1 f p = s.1 f p := by
  unfold fShadeF
  refine nfold_inv (fun _ (u : Int × Mem) => u.2.2 = s.2 ∧ ∀ f p, f ≠ 204 → f ≠ 205 → u.2.1 f p = s.1 f p) ⟨rfl, fun _ _ _ _ => rfl⟩ _ (fun i u _ hu => ?_)
  have k := shade_keep (u.2.2.2 103 (faL Λ t) i) u.2
  exact ⟨k.1.trans hu.1, fun f p h1 h2 => (k.2 f p h1 h2).trans (hu.2 f p h1 h2)⟩
theorem shadeY_keep (Λ : Lam) (c : Nat → Nat) (s : Mem) : ∀ i, (nfold (gShY1 Λ c) (0, s) i).2.2 = s.2 ∧ ∀ f p, f ≠ 204 → f ≠ 205 → (nfold (gShY1 Λ c) (0, s) i).2.1 f p = s.1 f p
  | 0 => ⟨rfl, fun _ _ _ _ => rfl⟩
  | i + 1 => by
    have ih := shadeY_keep Λ c s i
    rw [nfold_s]
    generalize nfold (gShY1 Λ c) (0, s) i = u at ih
    unfold gShY1
    split
    · exact ih
    · rename_i t ht
      have k := shadeF_keep Λ t u.2
      exact ⟨k.1.trans ih.1, fun f p h1 h2 => (k.2 f p h1 h2).trans (ih.2 f p h1 h2)⟩
theorem c_H_shadeFromYoung {P : Int → Mem → Prop} (hw : WF Λ c σ) (hp : P (fShadeY Λ c σ).1 (fShadeY Λ c σ).2) : K_H_shadeFromYoung l D Λ σ c P := by
  refine e_H_shadeFromYoung (fun x hl hD hx => ?_)
  subst hl; subst hD
  have hL := hw.ly
  have y0 := hw.y0
  have y1 := hw.y1
  refine u_H_shadeFromYoung_0 hx hL ?_
  have hws : ∀ i, WF Λ c (nfold (gShY1 Λ c) (0, σ) i).2 := by
    intro i
    refine WF.fold2 (a := ((0 : Int), σ)) hw _ (fun i s _ hs => ?_)
    unfold gShY1
    split
    · exact hs
    · exact shadeF_wf hs _
  have loop : ∀ n i : Nat, i + n = ((σ.1 101 (c 2))).toNat → N_H_shadeFromYoung_4 x P Λ (nfold (gShY1 Λ c) (0, σ) i).2 c (nfold (gShY1 Λ c) (0, σ) i).1 i := by
    intro n
    induction n with
    | zero =>
      intro i hi
      have k := (shadeY_keep Λ c σ i).2 101 (c 2) (by decide) (by decide)
      refine u_H_shadeFromYoung_4 hx hL ⟨⟨by omega, by omega⟩, (hws i).rg _ _, fun _ => ?_, fun h => absurd (show (nfold (gShY1 Λ c) (0, σ) i).2.1 101 (c 2) ≤ (i : Int) by rw [k]; omega) h⟩
      rw [show i = ((σ.1 101 (c 2))).toNat by omega]
      exact hp
    | succ n ih =>
      intro i hi
      have h2 := ih (i + 1) (by omega)
      rw [nfold_s] at h2
      have k := (shadeY_keep Λ c σ i).2 101 (c 2) (by decide) (by decide)
      have hs := hws i
      obtain ⟨t, ht⟩ := hs.yl i (by rw [k]; omega)
      generalize nfold (gShY1 Λ c) (0, σ) i = u at h2 hs ht k ⊢
      refine u_H_shadeFromYoung_4 hx hL ⟨⟨by omega, by omega⟩, hs.rg _ _, fun h => absurd h (by rw [k]; omega), fun _ => ⟨by omega, by omega, ?_⟩⟩
      have e : gShY1 Λ c i u = (u.1 + (fShadeF Λ t u.2).1, (fShadeF Λ t u.2).2) := by unfold gShY1; rw [ht]
      rw [e] at h2
      have e3 : u.2.2.2 101 (c 3) ((i : Int)).toNat = some t := ht
      rw [e3]
      exact c_H_shadeFields hs (hs.ty _ _ _ _ ht) h2
  exact loop ((σ.1 101 (c 2))).toNat 0 (by omega)
theorem c_H_scan {t : Nat} {P : Int → Mem → Prop} (hw : WF Λ c σ) (ht : isT Λ t) (hp : P (fScan Λ t σ).1 (fScan Λ t σ).2) : K_H_scan l D Λ σ (some t) P :=
  w_H_scan ⟨t, rfl, ht, c_H_shadeFields (hw.upT (f := 205) (q := t) (v := 0) (by decide) (by decide) (by decide) rng_0) ht hp⟩
theorem WF.greyT (h : WF Λ c σ) : ∀ t, fGrey c σ = some t → isT Λ t := by
  intro t ht
  unfold fGrey at ht
  split at ht
  · cases ht
  · exact h.atT _ t ht
theorem c_H_scanAllGrey {P : Int → Mem → Prop} (hw : WF Λ c σ) (hp : P (fScanAll Λ c σ).1 (fScanAll Λ c σ).2) : K_H_scanAllGrey l D Λ σ c P := by
  refine e_H_scanAllGrey (fun x hl hD hx => ?_)
  subst hl; subst hD
  have hL := hw.ly
  refine u_H_scanAllGrey_0 hx hL ?_
  have hws : ∀ i, WF Λ c (nfold (gScan1 Λ c) (0, σ) i).2 := by
    intro i
    refine WF.fold2 (a := ((0 : Int), σ)) hw _ (fun i s _ hs => ?_)
    unfold gScan1
    split
    · exact hs
    · exact scan_wf hs _
  have loop : ∀ n i : Nat, i + n = 64 → N_H_scanAllGrey_4 x P Λ (nfold (gScan1 Λ c) (0, σ) i).2 c (nfold (gScan1 Λ c) (0, σ) i).1 i := by
    intro n
    induction n with
    | zero =>
      intro i hi
      refine u_H_scanAllGrey_4 hx hL ⟨⟨by omega, by omega⟩, fun _ => ?_, fun h => absurd h (by omega)⟩
      rw [show i = 64 by omega]
      exact hp
    | succ n ih =>
      intro i hi
      have h2 := ih (i + 1) (by omega)
      rw [nfold_s] at h2
      have hs := hws i
      refine u_H_scanAllGrey_4 hx hL ⟨⟨by omega, by omega⟩, fun h => absurd h (by omega), fun _ => c_O_firstGrey hL hs.ty hs.rg ⟨fun h => ?_, fun t h => c_H_scan hs (hs.greyT t h) ?_⟩⟩
      · have e : fScanAll Λ c σ = nfold (gScan1 Λ c) (0, σ) i := by
          refine nfold_stop (fun j hj => ?_) 64 (by omega)
          exact gScan1_stop h
        rw [← e]
        exact hp
      · generalize nfold (gScan1 Λ c) (0, σ) i = u at h2 hs h ⊢
        have e : gScan1 Λ c i u = (u.1 + (fScan Λ t u.2).1, (fScan Λ t u.2).2) := by unfold gScan1; rw [h]
        rw [e] at h2
        exact h2
  exact loop 64 0 rfl
end CH2
