/-! THE REFERENCE's signs between -/
section BETWEEN
variable {l : Launch} {X : List (List Int32)} {S : CS} {M : MS}
def onF (v : Int32) (p : PT) : Bool × PT := if p.2.1 = Int32.ofInt 5 then (false, p) else (true, (v :: p.1, p.2.1 + 1, p.2.2))
def stF (s : Int32) (p : PT) : PT := unwF (if rkF s = Int32.ofInt 4 then Int32.ofInt 5 else rkF s) p.1 p.2.1 p.2.2
def tp4 : List Int32 → Bool
  | [] => false
  | t :: _ => if rkF t = Int32.ofInt 4 then true else false
def btF (s : Int32) (p : PT) : Bool × PT := if rkF s = Int32.ofInt 4 then (if tp4 (stF s p).1 = true then (false, stF s p) else (true, (s :: (stF s p).1, (stF s p).2.1, (stF s p).2.2))) else (true, (s :: (stF s p).1, (stF s p).2.1, (stF s p).2.2))
theorem stF_len (s : Int32) (p : PT) : (stF s p).1.length + (stF s p).2.2.length = p.1.length + p.2.2.length := unwF_len _ _ _ _
set_option maxRecDepth 100000 in
set_option maxHeartbeats 4000000 in
theorem m_opens (hM : MLen M) {tx : Nat} {cd0 : List Int32} {p : PT} (hb : p.1.length + p.2.2.length < 200) {h0 : AH} (hin : InP S M cd0 tx p h0) (v : Int32) :
    Ctr l 1 X sgX8_opensOne [.ref 27, .int v] h0 (fun h w => InP S M cd0 tx (onF v p).2 h ∧ w = some (.int (bB (onF v p).1))) := by
  obtain ⟨cd, hd, ho, hs, rfl⟩ := hin
  by_cases q : p.2.1 = Int32.ofInt 5
  · rw [onF, if_pos q]
    exact Ctr.of okX8_opensOne rfl (Nat.le_of_ble_eq_true rfl) (run_sound okX8_opensOne noCut 100 (And.intro (fun _ => ⟨rfl, ⟨cd, hd, ho, hs, rfl⟩, rfl⟩) (fun z => absurd q z)))
  · rw [onF, if_neg q]
    exact Ctr.of okX8_opensOne rfl (Nat.le_of_ble_eq_true rfl) (run_sound okX8_opensOne noCut 100 (And.intro (fun z => absurd z q) (fun _ => And.intro rfl (And.intro trivial (kH (m_holds (M := pM M cd hd (nI p.1.length) (p.2.1 + 1) (nI p.2.2.length)) (hM.p ho.1 hs.1) rfl (by omega) v) (by decide) ⟨rfl, ⟨cd, _, ho, hs.push v (by omega), rfl⟩, rfl⟩)))))
def cNb (i : Nat) : Bool := Nat.beq i 9 || Nat.beq i 29
set_option maxRecDepth 100000 in
set_option maxHeartbeats 4000000 in
theorem m_between (hM : MLen M) {tx : Nat} (htx : M.1 9 = nI tx) (htx6 : tx < 6) {cd0 : List Int32} {p : PT} (hb : p.1.length + p.2.2.length < 200) {h0 : AH} (hin : InP S M cd0 tx p h0) (s : Int32) :
    Ctr l 2 X sgX8_between [.ref 27, .int s] h0 (fun h w => InP S M cd0 tx (btF s p).2 h ∧ w = some (.int (bB (btF s p).1))) := by
  obtain ⟨cd1, hd1, ho1, hs1, rfl⟩ := id hin
  have hlen : (stF s p).1.length + (stF s p).2.2.length < 200 := by rw [stF_len]; exact hb
  have put : ∀ h, InP S M cd0 tx (stF s p) h → btF s p = (true, (s :: (stF s p).1, (stF s p).2.1, (stF s p).2.2)) → WP l (rmD 2 0 0) X sgX8_between kX8_between (fun h w => InP S M cd0 tx (btF s p).2 h ∧ w = some (.int (bB (btF s p).1))) 29 [some (.ref 27), some (.int s)] [] h 0 0 := by
    rintro h ⟨cd, hd, ho, hs, rfl⟩ he
    rw [he]
    refine run_sound okX8_between cNb 300 (kH (m_holds (M := pM M cd hd (nI (stF s p).1.length) (stF s p).2.1 (nI (stF s p).2.2.length)) (hM.p ho.1 hs.1) rfl (by omega) s) (by decide) ⟨rfl, ⟨cd, _, ho, hs.push s (by omega), rfl⟩, rfl⟩)
  have go : ∀ r, r = (if rkF s = Int32.ofInt 4 then Int32.ofInt 5 else rkF s) → WP l (rmD 2 0 0) X sgX8_between kX8_between (fun h w => InP S M cd0 tx (btF s p).2 h ∧ w = some (.int (bB (btF s p).1))) 9 [some (.ref 27), some (.int s)] [.int r, .ref 27] (mk S (pM M cd1 hd1 (nI p.1.length) p.2.1 (nI p.2.2.length))) 0 0 := by
    intro r hr
    refine run_sound okX8_between cNb 300 ⟨1, _, by decide, m_unwinds hM htx htx6 (by omega) hin r, ?_⟩
    subst hr
    rintro hp' w ⟨hq, rfl⟩
    have hq : InP S M cd0 tx (stF s p) hp' := hq
    obtain ⟨cd, hd, ho, hs, rfl⟩ := id hq
    refine kH (m_rank s) (by decide) (And.intro (fun q => ?_) (fun q => ?_))
    · have q : rkF s = Int32.ofInt 4 := q
      have put := put _ hq
      clear hq
      have hbt : btF s p = _ := if_pos q
      revert ho hs put hbt hlen
      generalize stF s p = z
      obtain ⟨zh, zo, zc⟩ := z
      cases zh with
      | nil =>
        intro hlen ho hs put hbt
        exact brT (Int32.le_refl _) (put (hbt.trans (if_neg (show ¬ tp4 [] = true by decide))))
      | cons t zh =>
        intro hlen ho hs put hbt
        have hl : zh.length + 1 + zc.length < 200 := hlen
        have e1 : nI (t :: zh).length - Int32.ofInt 1 = nI zh.length := nI_m1 (n := zh.length + 1) (by omega)
        have htop : hd.getD (nI (t :: zh).length - Int32.ofInt 1).toNatClampNeg 0 = t := by
          rw [e1, nI_clamp (by omega)]; exact hs.top
        have v1 : vp_in (nI (t :: zh).length - Int32.ofInt 1) hd.length := by
          rw [e1, hs.1]; exact vp_nI (by omega) (by decide)
        have hrk : ∀ hp, Ans l 0 X sgX8_rank [.int (hd.getD (nI (t :: zh).length - Int32.ofInt 1).toNatClampNeg 0)] hp (rkF t) := by
          intro hp
          rw [htop]; exact m_rank t
        refine brF (nI_ge (Nat.succ_pos _) (by show zh.length + 1 < 2 ^ 31; omega)) (Exists.intro _ (And.intro rfl (And.intro v1 (kH (hrk _) (by decide) (And.intro (fun q5 => ?_) (fun q5 => ?_))))))
        · have q6 : tp4 (t :: zh) = true := if_pos q5
          have e : btF s p = _ := hbt.trans (if_pos q6)
          rw [e]
          exact ⟨rfl, ⟨cd, hd, ho, hs, rfl⟩, rfl⟩
        · have q6 : ¬ tp4 (t :: zh) = true := fun z => absurd ((if_neg q5 : tp4 (t :: zh) = false).symm.trans z) (by decide)
          exact put (hbt.trans (if_neg q6))
    · exact put _ hq (if_neg q)
  refine Ctr.of okX8_between rfl (Nat.le_of_ble_eq_true rfl) (run_sound okX8_between cNb 300 (kH (m_rank s) (by decide) (And.intro (fun q => go _ (if_pos q).symm) (fun q => kH (m_rank s) (by decide) (go _ (if_neg q).symm)))))
end BETWEEN
