/-! THE REFERENCE's constructor: walked by program (wip/gen/ctorM.py) up to the call of text -/
def Mi : MS := (fun k => if k = 6 then 28 else 0, fun k => match k with
  | 1 => (z32 5)
  | 2 => (z32 5)
  | 4 => (z32 36)
  | 5 => ([111, 110, 99, 101, 32, 49, 32, 59, 32, 116, 119, 105, 99, 101, 32, 48, 32, 59, 32, 99, 111, 115, 116, 115, 32, 49, 32, 59] ++ z32 132)
  | 7 => (z32 1200)
  | 8 => (z32 24)
  | 15 => (z32 10)
  | 16 => (z32 36)
  | 17 => ([-1, -1, -1, -1])
  | 18 => (z32 4)
  | 19 => (z32 160)
  | 20 => ([111, 110, 99, 101, 32, 49, 32, 59, 32, 116, 119, 105, 99, 101, 32, 48, 32, 59, 32, 99, 111, 115, 116, 115, 32, 49, 32, 59])
  | 25 => ([111, 110, 99, 101, 32, 32, 32, 32, 116, 119, 105, 99, 101, 32, 32, 32, 99, 111, 115, 116, 115, 32, 32, 32, 97, 32, 32, 32, 32, 32, 32, 32, 98, 32, 32, 32, 32, 32, 32, 32, 99, 32, 32, 32, 32, 32, 32, 32, 100, 32, 32, 32, 32, 32, 32, 32, 101, 32, 32, 32, 32, 32, 32, 32, 119, 104, 111, 32, 32, 32, 32, 32, 111, 114, 32, 32, 32, 32, 32, 32, 97, 110, 100, 32, 32, 32, 32, 32, 110, 111, 116, 32, 32, 32, 32, 32])
  | 26 => (z32 200)
  | 30 => (z32 200)
  | 31 => (z32 6)
  | _ => [], z64 60, z64 12)
theorem Mi_len : MLen Mi := ⟨rfl, rfl, rfl, rfl, List.length_replicate, rfl, rfl, rfl, rfl, rfl, List.length_replicate, rfl, rfl, List.length_replicate, List.length_replicate, rfl, rfl, rfl⟩
abbrev Ti : TS := txL (Mi.2.1 25) (Mi.2.1 5) 28 0 3 0 (true, 0, Mi.1 22, [], Mi.2.1 8)
theorem Ti_ok : Ti.1 = true ∧ (txE (Mi.2.1 25) (Mi.2.1 5) 28 Ti).1 = true ∧ Ti.2.2.2.1.length ≤ 200 ∧ (Ti.2.2.2.2.set (4 * 0 + 3) (nI Ti.2.2.2.1.length)).length = 24 := by decide +kernel
/-- its only text: once 1; twice 0; costs 1; -/
def SegF (M : MS) : Prop := segM M 0 0 = [100001] ∧ segM M 0 1 = [100000] ∧ segM M 0 2 = [100001]
theorem Ti_oc : Ti.2.2.2.1 = [100001, 100000, 100001] := by decide +kernel
theorem Ti_st : Ti.2.2.2.2.set (4 * 0 + 3) (nI Ti.2.2.2.1.length) = [0, 1, 2, 3] ++ z32 20 := by decide +kernel
theorem SegF.of {M : MS} {r : List Int32} (h7 : M.2.1 7 = [100001, 100000, 100001] ++ r) (h8 : M.2.1 8 = [0, 1, 2, 3] ++ z32 20) : SegF M := by
  unfold SegF segM
  rw [h7, h8]
  exact ⟨rfl, rfl, rfl⟩
/-- a new reference -/
def NewM (M : MS) : Prop := MLen M ∧ AllOk M 1 ∧ SegF M ∧ ∃ a b tk v cd hd hm op ou st, M = mR (pM (xM (mN (mN Mi 6 0) 9 1) a b tk v) cd hd hm op ou) 8 st
theorem NewM_of {cd hd st : List Int32} {a b hm op ou tk v : Int32} (ho : OutR (Mi.2.1 7) cd 0 Ti.2.2.2.1) (hhd : hd.length = 200) (hst : st = Ti.2.2.2.2.set (4 * 0 + 3) (nI Ti.2.2.2.1.length)) : NewM (mR (pM (xM (mN (mN Mi 6 0) 9 1) a b tk v) cd hd hm op ou) 8 st) := by
  have h0 : AllOk Mi 0 := fun t ht => absurd ht (Nat.not_lt_zero _)
  refine ⟨?_, ?_, ?_, _, _, _, _, _, _, _, _, _, _, rfl⟩
  · obtain ⟨a1, a2, a3, a4, a5, a6, a7, a8, a9, a10, a11, a12, a13, a14, a15, a16, a17, a18⟩ := Mi_len
    exact ⟨a1, a2, a3, a4, ho.1, (congrArg List.length hst).trans Ti_ok.2.2.2, a7, a8, a9, a10, a11, a12, a13, hhd, a15, a16, a17, a18⟩
  · exact h0.more (M' := mR (pM (xM (mN (mN Mi 6 0) 9 1) a b tk v) cd hd hm op ou) 8 st) (by decide) (t := 28) (by decide) Mi_len.2.2.2.2.1 Mi_len.2.2.2.2.2.1 Ti_ok.1 Ti_ok.2.2.1 ho hst
  · have h3 := ho.2.2
    rw [Ti_oc] at h3
    have e : cd = [100001, 100000, 100001] ++ cd.drop 3 := by
      have q : cd.take 3 = [100001, 100000, 100001] := h3
      rw [← q]
      exact (List.take_append_drop 3 cd).symm
    exact SegF.of (M := mR (pM (xM (mN (mN Mi 6 0) 9 1) a b tk v) cd hd hm op ou) 8 st) (r := cd.drop 3) e (hst.trans Ti_st)
