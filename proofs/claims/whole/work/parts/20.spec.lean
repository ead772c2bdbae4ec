-- words for the parts of the picture
def szI (Λ : Lam) (t : Nat) : Int := 1 + (nfL Λ t : Int)
def fCard (a : Int) : Int := iShl 1 (iDiv a 8)
def fUnder (Λ : Lam) (σ : Mem) (t : Nat) : Int := nfold (fun i u => iOr u (fCard ((σ.1 203 t) + i))) 0 (nfL Λ t + 1)
-- rows
def gAdd (b q : Nat) (o : Option Nat) (σ : Mem) : Mem := upI (upX σ 101 q ((σ.1 101 b)).toNat o) 101 b ((σ.1 101 b) + 1)
def fAdd (b q n : Nat) (o : Option Nat) (σ : Mem) : Int × Mem := if (n : Int) ≤ (σ.1 101 b) then (0, σ) else (1, gAdd b q o σ)
def fReach (b q n : Nat) (o : Option Nat) (σ : Mem) : Int × Mem := match o with
  | none => (0, σ)
  | some t => if (σ.1 206 t) = 0 then (if (n : Int) ≤ (σ.1 101 b) then (0, σ) else (1, upI (gAdd b q (some t) σ) 206 t 1)) else (0, σ)
def gLet1 (q i : Nat) (σ : Mem) : Mem := match σ.2.2 101 q i with
  | none => σ
  | some t => upI σ 206 t 0
def gLetGo (b q : Nat) (σ : Mem) : Mem := upI (nfold (gLet1 q) σ ((σ.1 101 b)).toNat) 101 b 0
def fSzAt (Λ : Lam) (q : Nat) (σ : Mem) (i : Nat) : Int := match σ.2.2 101 q i with
  | none => 0
  | some t => szI Λ t
def fTaken (Λ : Lam) (b q : Nat) (σ : Mem) : Int := sumN (fSzAt Λ q σ) ((σ.1 101 b)).toNat
-- the old part
def gFill (c : Nat → Nat) (lo hi : Int) (o : Option Nat) (σ : Mem) : Mem := (σ.1, σ.2.1, fun kd q k => if kd = 102 ∧ q = c 5 ∧ lo ≤ (k : Int) ∧ (k : Int) < hi then o else σ.2.2 kd q k)
def fFree (c : Nat → Nat) (σ : Mem) (a : Nat) : Bool := ((σ.2.2 102 (c 5) a)).isNone
def fPlace (c : Nat → Nat) (σ : Mem) (size : Int) : Int := plc (fFree c σ) size
def gPut (Λ : Lam) (c : Nat → Nat) (t : Nat) (p : Int) (σ : Mem) : Mem := gFill c p (min (p + szI Λ t) 64) (some t) (upI σ 203 t p)
def gTake (Λ : Lam) (c : Nat → Nat) (t : Nat) (σ : Mem) : Mem := gFill c ((σ.1 203 t)) (min ((σ.1 203 t) + szI Λ t) 64) none σ
def fAt (c : Nat → Nat) (σ : Mem) (a : Nat) : Option Nat := match (σ.2.2 102 (c 5) a) with
  | none => none
  | some t => if (σ.1 203 t) = (a : Int) then some t else none
def fFrom (c : Nat → Nat) (σ : Mem) (least : Int) : Option Nat := match fnd (fun a => decide (least ≤ (a : Int)) && (fAt c σ a).isSome) 64 with
  | none => none
  | some a => fAt c σ a
def isGry (c : Nat → Nat) (σ : Mem) (a : Nat) : Bool := match fAt c σ a with
  | none => false
  | some t => decide ((σ.1 205 t) ≠ 0)
def fGrey (c : Nat → Nat) (σ : Mem) : Option Nat := match fnd (isGry c σ) 64 with
  | none => none
  | some a => fAt c σ a
def fRef (Λ : Lam) (c : Nat → Nat) (σ : Mem) (a : Nat) : Option Nat := match (σ.2.2 102 (c 5) a) with
  | none => none
  | some t => if 0 ≤ (a : Int) - (σ.1 203 t) - 1 ∧ (a : Int) - (σ.1 203 t) - 1 < (nfL Λ t : Int) then (σ.2.2 103 (faL Λ t) ((a : Int) - (σ.1 203 t) - 1).toNat) else none
def isYng (σ : Mem) (o : Option Nat) : Bool := match o with
  | none => false
  | some t => decide ((σ.1 203 t) = -1)
def fShow (Λ : Lam) (c : Nat → Nat) (σ : Mem) : Int := nfold (fun a u => if isYng σ (fRef Λ c σ a) = true then iOr u (fCard a) else u) 0 64
def gGrey1 (c : Nat → Nat) (cards : Int) (a : Nat) (σ : Mem) : Mem := match (σ.2.2 102 (c 5) a) with
  | none => σ
  | some t => if (σ.1 204 t) ≠ 0 ∧ iAnd cards (fCard a) ≠ 0 then upI σ 205 t 1 else σ
def gGrey (c : Nat → Nat) (cards : Int) (σ : Mem) : Mem := nfold (gGrey1 c cards) σ 64
def gUnm1 (c : Nat → Nat) (a : Nat) (σ : Mem) : Mem := match (σ.2.2 102 (c 5) a) with
  | none => σ
  | some t => upI (upI σ 204 t 0) 205 t 0
def gUnm (c : Nat → Nat) (σ : Mem) : Mem := nfold (gUnm1 c) σ 64
def gSlide1 (Λ : Lam) (c : Nat → Nat) (a : Nat) (u : Int × Mem) : Int × Mem := match fAt c u.2 a with
  | none => u
  | some t => if (u.2.1 206 t) ≠ 0 then (u.1 + szI Λ t, gPut Λ c t u.1 (gTake Λ c t u.2)) else (u.1, upI (gTake Λ c t u.2) 203 t (-2))
def gSlide (Λ : Lam) (c : Nat → Nat) (σ : Mem) : Mem := (nfold (gSlide1 Λ c) (0, σ) 64).2
def fOldCells (c : Nat → Nat) (σ : Mem) : Int := sumN (fun a => if ((σ.2.2 102 (c 5) a)).isSome then 1 else 0) 64
-- the heap
def fPlaceOld (Λ : Lam) (c : Nat → Nat) (t : Nat) (σ : Mem) : Int × Mem := if fPlace c σ (szI Λ t) = -1 then (0, σ) else
  (1, let s1 := gPut Λ c t (fPlace c σ (szI Λ t)) σ
      let s2 := upI s1 304 (c 0) (iOr ((s1.1 304 (c 0))) (fUnder Λ s1 t))
      upI s2 204 t (if (s2.1 306 (c 0)) = 0 then 0 else 1))
def gReachY (Λ : Lam) (c : Nat → Nat) (o : Option Nat) (σ : Mem) : Mem := match o with
  | none => σ
  | some t => if (σ.1 203 t) = -1 then (if (fReach (c 6) (c 7) 84 (some t) σ).1 = 0 then (fReach (c 6) (c 7) 84 (some t) σ).2 else
      let s1 := (fReach (c 6) (c 7) 84 (some t) σ).2
      let s2 := upI s1 202 t (min ((s1.1 202 t) + 1) 9)
      if 2 ≤ (s2.1 202 t) then (fPlaceOld Λ c t s2).2 else s2) else σ
def gCards1 (Λ : Lam) (c : Nat → Nat) (db : Int) (a : Nat) (σ : Mem) : Mem := match (σ.2.2 102 (c 5) a) with
  | none => σ
  | some t => if (σ.1 206 t) = 0 ∧ iAnd db (fCard a) ≠ 0 then gReachY Λ c (fRef Λ c σ a) σ else σ
def gField1 (Λ : Lam) (c : Nat → Nat) (t k : Nat) (σ : Mem) : Mem := gReachY Λ c ((σ.2.2 103 (faL Λ t) k)) σ
def gFields (Λ : Lam) (c : Nat → Nat) (t : Nat) (σ : Mem) : Mem := nfold (gField1 Λ c t) σ (nfL Λ t)
def gClose1 (Λ : Lam) (c : Nat → Nat) (i : Nat) (σ : Mem) : Mem := if (i : Int) < (σ.1 101 (c 6)) then (match σ.2.2 101 (c 7) i with
  | none => σ
  | some t => gFields Λ c t σ) else σ
def gRoots1 (Λ : Lam) (c : Nat → Nat) (r : Nat) (σ : Mem) : Mem := gReachY Λ c ((σ.2.2 100 (c 1) r)) σ
def gReachAllY (Λ : Lam) (c : Nat → Nat) (σ : Mem) : Mem := nfold (gClose1 Λ c) (nfold (gCards1 Λ c ((σ.1 304 (c 0)))) (nfold (gRoots1 Λ c) σ 6) 64) 84
def gDrop1 (c : Nat → Nat) (i : Nat) (σ : Mem) : Mem := match σ.2.2 101 (c 3) i with
  | none => σ
  | some t => if (σ.1 206 t) = 0 then upI σ 203 t (-2) else σ
def gDrop (c : Nat → Nat) (σ : Mem) : Mem := nfold (gDrop1 c) σ ((σ.1 101 (c 2))).toNat
def gRenew1 (c : Nat → Nat) (i : Nat) (u : Int × Mem) : Int × Mem := match u.2.2.2 101 (c 7) i with
  | none => u
  | some t => if (u.2.1 203 t) = -1 then (u.1, (fAdd (c 2) (c 3) 20 (some t) u.2).2) else (u.1 + 1, u.2)
def fRenew (c : Nat → Nat) (σ : Mem) : Int × Mem := nfold (gRenew1 c) (0, upI σ 101 (c 2) 0) ((σ.1 101 (c 6))).toNat
def gClean (Λ : Lam) (c : Nat → Nat) (σ : Mem) : Mem :=
  let cl := iAnd ((σ.1 304 (c 0))) (iXor (fShow Λ c σ) (-1))
  let s1 := upI σ 304 (c 0) (iAnd ((σ.1 304 (c 0))) (iXor cl (-1)))
  if (s1.1 306 (c 0)) = 1 then upI s1 305 (c 0) (iOr ((s1.1 305 (c 0))) cl) else s1
def fYng1 (Λ : Lam) (c : Nat → Nat) (σ : Mem) : Int × Mem := fRenew c (gDrop c (gReachAllY Λ c σ))
def fYoung (Λ : Lam) (c : Nat → Nat) (σ : Mem) : Int × Mem := ((fYng1 Λ c σ).1, gClean Λ c (gLetGo (c 6) (c 7) (fYng1 Λ c σ).2))
def gFindF (Λ : Lam) (c : Nat → Nat) (t k : Nat) (σ : Mem) : Mem := (fReach (c 6) (c 7) 84 ((σ.2.2 103 (faL Λ t) k)) σ).2
def gFind1 (Λ : Lam) (c : Nat → Nat) (i : Nat) (σ : Mem) : Mem := if (i : Int) < (σ.1 101 (c 6)) then (match σ.2.2 101 (c 7) i with
  | none => σ
  | some t => nfold (gFindF Λ c t) σ (nfL Λ t)) else σ
def gFindR (c : Nat → Nat) (r : Nat) (σ : Mem) : Mem := (fReach (c 6) (c 7) 84 ((σ.2.2 100 (c 1) r)) σ).2
def gFindAll (Λ : Lam) (c : Nat → Nat) (σ : Mem) : Mem := nfold (gFind1 Λ c) (nfold (gFindR c) σ 6) 84
def gKeep1 (c : Nat → Nat) (i : Nat) (σ : Mem) : Mem := match σ.2.2 101 (c 3) i with
  | none => σ
  | some t => if (σ.1 206 t) ≠ 0 then (fAdd (c 2) (c 3) 20 (some t) σ).2 else σ
def gKeep (c : Nat → Nat) (σ : Mem) : Mem := nfold (gKeep1 c) (upI (gDrop c σ) 101 (c 2) 0) (((gDrop c σ).1 101 (c 2))).toNat
-- moves over, up to the first that has no place: (how many, still going)
def gMove1 (Λ : Lam) (c : Nat → Nat) (i : Nat) (u : Int × Mem) : Int × Mem := if u.1 = (i : Int) then (match u.2.2.2 101 (c 3) i with
  | none => u
  | some t => if (fPlaceOld Λ c t u.2).1 = 0 then (u.1, (fPlaceOld Λ c t u.2).2) else (u.1 + 1, (fPlaceOld Λ c t u.2).2)) else u
def gRest1 (c : Nat → Nat) (n : Int) (i : Nat) (σ : Mem) : Mem := if n ≤ (i : Int) then (match σ.2.2 101 (c 3) i with
  | none => σ
  | some t => (fAdd (c 2) (c 3) 20 (some t) σ).2) else σ
def fMov1 (Λ : Lam) (c : Nat → Nat) (σ : Mem) : Int × Mem := nfold (gMove1 Λ c) (0, σ) ((σ.1 101 (c 2))).toNat
def fMove (Λ : Lam) (c : Nat → Nat) (σ : Mem) : Int × Mem := ((fMov1 Λ c σ).1, nfold (gRest1 c (fMov1 Λ c σ).1) (upI (fMov1 Λ c σ).2 101 (c 2) 0) ((σ.1 101 (c 2))).toNat)
def gAll1 (Λ : Lam) (c : Nat → Nat) (σ : Mem) : Mem := upI (gUnm c (gSlide Λ c (gFindAll Λ c σ))) 306 (c 0) 0
def fAll1 (Λ : Lam) (c : Nat → Nat) (σ : Mem) : Int × Mem := fMove Λ c (gLetGo (c 6) (c 7) (gKeep c (gAll1 Λ c σ)))
def gAll2 (Λ : Lam) (c : Nat → Nat) (σ : Mem) : Mem := upI (fAll1 Λ c σ).2 305 (c 0) 0
def fAll (Λ : Lam) (c : Nat → Nat) (σ : Mem) : Int × Mem := ((fAll1 Λ c σ).1, upI (gAll2 Λ c σ) 304 (c 0) (fShow Λ c (gAll2 Λ c σ)))
-- marking
def fShade (o : Option Nat) (σ : Mem) : Int × Mem := match o with
  | none => (0, σ)
  | some t => if 0 ≤ (σ.1 203 t) ∧ (σ.1 204 t) = 0 then (1, upI (upI σ 204 t 1) 205 t 1) else (0, σ)
def gShF1 (Λ : Lam) (t k : Nat) (u : Int × Mem) : Int × Mem := ((u.1 + (fShade ((u.2.2.2 103 (faL Λ t) k)) u.2).1), (fShade ((u.2.2.2 103 (faL Λ t) k)) u.2).2)
def fShadeF (Λ : Lam) (t : Nat) (σ : Mem) : Int × Mem := nfold (gShF1 Λ t) (0, σ) (nfL Λ t)
def gShR1 (c : Nat → Nat) (r : Nat) (u : Int × Mem) : Int × Mem := ((u.1 + (fShade ((u.2.2.2 100 (c 1) r)) u.2).1), (fShade ((u.2.2.2 100 (c 1) r)) u.2).2)
def fShadeR (c : Nat → Nat) (σ : Mem) : Int × Mem := nfold (gShR1 c) (0, σ) 6
def gShY1 (Λ : Lam) (c : Nat → Nat) (i : Nat) (u : Int × Mem) : Int × Mem := match u.2.2.2 101 (c 3) i with
  | none => u
  | some t => (u.1 + (fShadeF Λ t u.2).1, (fShadeF Λ t u.2).2)
def fShadeY (Λ : Lam) (c : Nat → Nat) (σ : Mem) : Int × Mem := nfold (gShY1 Λ c) (0, σ) ((σ.1 101 (c 2))).toNat
def fScan (Λ : Lam) (t : Nat) (σ : Mem) : Int × Mem := fShadeF Λ t (upI σ 205 t 0)
def gScan1 (Λ : Lam) (c : Nat → Nat) (_ : Nat) (u : Int × Mem) : Int × Mem := match fGrey c u.2 with
  | none => u
  | some t => (u.1 + (fScan Λ t u.2).1, (fScan Λ t u.2).2)
def fScanAll (Λ : Lam) (c : Nat → Nat) (σ : Mem) : Int × Mem := nfold (gScan1 Λ c) (0, σ) 64
-- the public methods
def isR (r : Int) : Prop := 0 ≤ r ∧ r < 6
def fClear (c : Nat → Nat) (r : Int) (σ : Mem) : Int × Mem := if 0 ≤ r ∧ r < 6 then (1, upX σ 100 (c 1) r.toNat none) else (0, σ)
def fCopy (c : Nat → Nat) (r q : Int) (σ : Mem) : Int × Mem := if (0 ≤ r ∧ r < 6) ∧ 0 ≤ q ∧ q < 6 then (1, upX σ 100 (c 1) r.toNat ((σ.2.2 100 (c 1) q.toNat))) else (0, σ)
def fLoad (Λ : Lam) (c : Nat → Nat) (r q k : Int) (σ : Mem) : Int × Mem := if (0 ≤ r ∧ r < 6) ∧ 0 ≤ q ∧ q < 6 then (match (σ.2.2 100 (c 1) q.toNat) with
  | none => (-3, σ)
  | some t => if 0 ≤ k ∧ k < (nfL Λ t : Int) then (0, upX σ 100 (c 1) r.toNat ((σ.2.2 103 (faL Λ t) k.toNat))) else (-4, σ)) else (-2, σ)
def gStore (Λ : Lam) (c : Nat → Nat) (t k : Nat) (o : Option Nat) (σ : Mem) : Mem := if 0 ≤ (σ.1 203 t) then upI (upX σ 103 (faL Λ t) k o) 304 (c 0) (iOr ((σ.1 304 (c 0))) (fCard ((σ.1 203 t) + 1 + k))) else upX σ 103 (faL Λ t) k o
def fStore (Λ : Lam) (c : Nat → Nat) (r k q : Int) (σ : Mem) : Int × Mem := if (0 ≤ r ∧ r < 6) ∧ 0 ≤ q ∧ q < 6 then (match (σ.2.2 100 (c 1) r.toNat) with
  | none => (-3, σ)
  | some t => if 0 ≤ k ∧ k < (nfL Λ t : Int) then (0, gStore Λ c t k.toNat ((σ.2.2 100 (c 1) q.toNat)) σ) else (-4, σ)) else (-2, σ)
def fPayload (c : Nat → Nat) (r : Int) (σ : Mem) : Int := if 0 ≤ r ∧ r < 6 then (match (σ.2.2 100 (c 1) r.toNat) with
  | none => 0
  | some t => (σ.1 200 t)) else 0
def fSame (c : Nat → Nat) (r q : Int) (σ : Mem) : Int := if ((0 ≤ r ∧ r < 6) ∧ 0 ≤ q ∧ q < 6) ∧ (σ.2.2 100 (c 1) r.toNat) = (σ.2.2 100 (c 1) q.toNat) then 1 else 0
def fAddress (c : Nat → Nat) (r : Int) (σ : Mem) : Int := if 0 ≤ r ∧ r < 6 then (match (σ.2.2 100 (c 1) r.toNat) with
  | none => -3
  | some t => if 0 ≤ (σ.1 203 t) then (σ.1 203 t) else -1) else -2
def fAgeOf (c : Nat → Nat) (r : Int) (σ : Mem) : Int := if 0 ≤ r ∧ r < 6 then (match (σ.2.2 100 (c 1) r.toNat) with
  | none => -3
  | some t => if (σ.1 203 t) = -1 then (σ.1 202 t) else -1) else -2
def fBegin (c : Nat → Nat) (σ : Mem) : Int × Mem := if (σ.1 306 (c 0)) = 0 then fShadeR c (upI (upI σ 306 (c 0) 1) 305 (c 0) 0) else (-6, σ)
def fMark (Λ : Lam) (c : Nat → Nat) (σ : Mem) : Int × Mem := if (σ.1 306 (c 0)) = 1 then (match fGrey c σ with
  | none => (-1, σ)
  | some t => (((fScan Λ t σ).2.1 203 t), (fScan Λ t σ).2)) else (-6, σ)
def fPre (c : Nat → Nat) (σ : Mem) : Int × Mem := if (σ.1 306 (c 0)) = 1 then (match fnd (fun i => decide (iAnd ((σ.1 305 (c 0))) (iShl 1 (i : Nat)) ≠ 0)) 8 with
  | none => (-1, σ)
  | some i => ((i : Int), gGrey c (iShl 1 i) (upI σ 305 (c 0) (iAnd ((σ.1 305 (c 0))) (iXor (iShl 1 i) (-1)))))) else (-6, σ)
def rmk1 (c : Nat → Nat) (σ : Mem) : Int × Mem := fShadeR c (gGrey c (iOr ((σ.1 304 (c 0))) ((σ.1 305 (c 0)))) σ)
def rmk2 (Λ : Lam) (c : Nat → Nat) (σ : Mem) : Int × Mem := fShadeY Λ c (rmk1 c σ).2
def rmk3 (Λ : Lam) (c : Nat → Nat) (σ : Mem) : Int × Mem := fScanAll Λ c (rmk2 Λ c σ).2
def fRemark (Λ : Lam) (c : Nat → Nat) (σ : Mem) : Int × Mem := if (σ.1 306 (c 0)) = 1 then ((rmk1 c σ).1 + (rmk2 Λ c σ).1 + (rmk3 Λ c σ).1, upI (upI (upI (rmk3 Λ c σ).2 305 (c 0) 0) 306 (c 0) 2) 307 (c 0) 0) else (-6, σ)
def fSweep (Λ : Lam) (c : Nat → Nat) (σ : Mem) : Int × Mem := if (σ.1 306 (c 0)) = 2 then (match fFrom c σ ((σ.1 307 (c 0))) with
  | none => (128, gUnm c (upI σ 306 (c 0) 0))
  | some t => if (σ.1 204 t) = 0 then ((σ.1 203 t), upI (gTake Λ c t (upI σ 307 (c 0) ((σ.1 203 t) + szI Λ t))) 203 t (-2)) else (64 + (σ.1 203 t), upI σ 307 (c 0) ((σ.1 203 t) + szI Λ t))) else (-6, σ)
def fCardsV (c : Nat → Nat) (σ : Mem) : Int := iOr ((σ.1 304 (c 0))) (iShl ((σ.1 305 (c 0))) 8)
def fMkAt (c : Nat → Nat) (σ : Mem) (a : Nat) : Int := match fAt c σ a with
  | none => 0
  | some t => if (σ.1 204 t) = 0 then 0 else if (σ.1 205 t) = 0 then 1 else 1001
def fMarked (c : Nat → Nat) (σ : Mem) : Int := sumN (fMkAt c σ) 64
