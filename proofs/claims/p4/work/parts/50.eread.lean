/-! THE REFERENCE reads one part of a text -/
section EREAD
variable {l : Launch} {X : List (List Int32)} {S : CS} {M N : MS}
abbrev ES : Type := (Bool × PT) ⊕ (Bool × Bool × PT)
def onS (wa br : Bool) (s : Int32) (p : PT) : ES := if (onF s p).1 = true then .inr (wa, br, (onF s p).2) else .inl (false, (onF s p).2)
def clS2 (br : Bool) : PT → ES
  | ([], op, oc) => .inl (false, ([], op, oc))
  | (_ :: hs, op, oc) => .inr (false, br, unwF (Int32.ofInt 7) hs (op - Int32.ofInt 1) oc)
def lt12 (s : Int32) : Bool := if Int32.ofInt 12 < s then false else true
def btS (s : Int32) (p : PT) : ES := if (btF s p).1 = true then .inr (true, lt12 s, (btF s p).2) else .inl (false, (btF s p).2)
def stW (br : Bool) (tk : Int32) (p : PT) : ES :=
  if tk = Int32.ofInt 45 then onS true false (Int32.ofInt 19) p else if tk = Int32.ofInt 40 then onS true true (Int32.ofInt 0) p else .inl (false, p)
def stE (wa br : Bool) (tk v : Int32) (p : PT) : ES :=
  if wa = true then
    (if tk = Int32.ofInt 1 then .inr (false, br, unwF (Int32.ofInt 7) p.1 p.2.1 (p.2.2 ++ [Int32.ofInt 100000 + v]))
    else if tk = Int32.ofInt 2 then .inr (false, br, unwF (Int32.ofInt 7) p.1 p.2.1 (p.2.2 ++ [v]))
    else if tk = Int32.ofInt 6 then (if br = true then onS true br (Int32.ofInt 13) p else stW br tk p)
    else stW br tk p)
  else if tk = Int32.ofInt 59 then .inl ((unwF (Int32.ofInt 1) p.1 p.2.1 p.2.2).1.isEmpty, unwF (Int32.ofInt 1) p.1 p.2.1 p.2.2)
  else if tk = Int32.ofInt 41 then clS2 br (unwF (Int32.ofInt 1) p.1 p.2.1 p.2.2)
  else if sgF tk = Int32.ofInt (-1) then .inl (false, p)
  else btS (sgF tk) p
theorem brBB {b : Bool} {A B : Prop} (h1 : b = false → A) (h2 : b = true → B) : (bB b = Int32.ofInt 0 → A) ∧ (¬ bB b = Int32.ofInt 0 → B) := by
  cases b with
  | false => exact ⟨fun _ => h1 rfl, fun z => absurd rfl z⟩
  | true => exact ⟨fun z => absurd z (by decide), fun _ => h2 rfl⟩
def cNe (i : Nat) : Bool := Nat.beq i 10 || Nat.beq i 34 || Nat.beq i 53
set_option maxRecDepth 100000 in
set_option maxHeartbeats 4000000 in
theorem er_step (hN : MLen N) {tx : Nat} (htx : N.1 9 = nI tx) (htx6 : tx < 6) {cd0 : List Int32} {p : PT} (hb : p.1.length + p.2.2.length < 199) {cd hd : List Int32} (ho : OutR cd0 cd tx p.2.2) (hs : StkR hd p.1)
    {Q : AH → Option Value → Prop} {wa bv : Bool} {x3 : Option Value}
    (fin : ∀ b q h, stE wa bv (N.1 23) (N.1 24) p = .inl (b, q) → InP S N cd0 tx q h → Q h (some (.int (bB b))))
    (nxt : ∀ wa' br' q h x, stE wa bv (N.1 23) (N.1 24) p = .inr (wa', br', q) → InP S N cd0 tx q h → WP l (rmD 3 0 0) X sgX8_eRead kX8_eRead Q 10 [some (.ref 27), some (.int (bB wa')), some (.int (bB br')), x] [] h 0 0) :
    WP l (rmD 3 0 0) X sgX8_eRead kX8_eRead Q 12 [some (.ref 27), some (.int (bB wa)), some (.int (bB bv)), x3] [] (mk S (pM N cd hd (nI p.1.length) p.2.1 (nI p.2.2.length))) 0 0 := by
  have hin : InP S N cd0 tx p (mk S (pM N cd hd (nI p.1.length) p.2.1 (nI p.2.2.length))) := ⟨cd, hd, ho, hs, rfl⟩
  cases wa with
  | true =>
    have at34 : ∀ v, stE true bv (N.1 23) (N.1 24) p = .inr (false, bv, unwF (Int32.ofInt 7) p.1 p.2.1 (p.2.2 ++ [v])) → WP l (rmD 3 0 0) X sgX8_eRead kX8_eRead Q 34 [some (.ref 27), some (.int (bB true)), some (.int (bB bv)), x3] [.int v, .ref 27] (mk S (pM N cd hd (nI p.1.length) p.2.1 (nI p.2.2.length))) 0 0 := by
      intro v he
      refine run_sound okX8_eRead cNe 300 (kH (m_puts (M := pM N cd hd (nI p.1.length) p.2.1 (nI p.2.2.length)) (hN.p ho.1 hs.1) htx htx6 rfl (by omega) v) (by decide) ?_)
      have hin2 : InP S N cd0 tx (p.1, p.2.1, p.2.2 ++ [v]) (mk S (pM N (cd.set (200 * tx + p.2.2.length) v) hd (nI p.1.length) p.2.1 (nI (p.2.2.length + 1)))) := ⟨_, hd, ho.push htx6 (by omega) v, hs, by rw [show (p.2.2 ++ [v]).length = p.2.2.length + 1 by simp]⟩
      refine ⟨1, _, by decide, m_unwinds hN htx htx6 (p := (p.1, p.2.1, p.2.2 ++ [v])) (by simp; omega) hin2 (Int32.ofInt 7), ?_⟩
      rintro hp' w ⟨hq, rfl⟩
      exact nxt _ _ _ _ _ he hq
    have at53 : stE true bv (N.1 23) (N.1 24) p = stW bv (N.1 23) p → WP l (rmD 3 0 0) X sgX8_eRead kX8_eRead Q 53 [some (.ref 27), some (.int (bB true)), some (.int (bB bv)), x3] [] (mk S (pM N cd hd (nI p.1.length) p.2.1 (nI p.2.2.length))) 0 0 := by
      intro he
      refine run_sound okX8_eRead cNe 300 (And.intro (fun q => ?_) (fun q => And.intro (fun q2 => ?_) (fun q2 => ?_)))
      · have he := he.trans (if_pos q)
        refine ⟨1, _, by decide, m_opens hN (by omega) hin (Int32.ofInt 19), ?_⟩
        rintro hp' w ⟨hq, rfl⟩
        refine brBB (fun z => ⟨rfl, fin false _ _ (he.trans (if_neg (by rw [z]; decide))) hq⟩) (fun z => nxt _ _ _ _ _ (he.trans (if_pos z)) hq)
      · have he := he.trans ((if_neg q).trans (if_pos q2))
        refine ⟨1, _, by decide, m_opens hN (by omega) hin (Int32.ofInt 0), ?_⟩
        rintro hp' w ⟨hq, rfl⟩
        refine brBB (fun z => ⟨rfl, fin false _ _ (he.trans (if_neg (by rw [z]; decide))) hq⟩) (fun z => nxt _ _ _ _ _ (he.trans (if_pos z)) hq)
      · exact ⟨rfl, fin false _ _ (he.trans ((if_neg q).trans (if_neg q2))) hin⟩
    refine run_sound okX8_eRead cNe 300 (brF (by decide) (br (fun q => ?_) (fun q => And.intro (fun q2 => ?_) (fun q2 => ?_))))
    · exact brT q (at34 _ ((if_pos rfl).trans (if_pos q)))
    · exact And.intro (fun z => absurd z q) (fun _ => at34 _ ((if_pos rfl).trans ((if_neg q).trans (if_pos q2))))
    · refine And.intro (fun q3 => ?_) (fun q3 => at53 ((if_pos rfl).trans ((if_neg q).trans ((if_neg q2).trans (if_neg q3)))))
      have he : stE true bv (N.1 23) (N.1 24) p = _ := (if_pos rfl).trans ((if_neg q).trans ((if_neg q2).trans (if_pos q3)))
      refine brBB (fun z => at53 (he.trans (if_neg (by rw [z]; decide)))) (fun z => ?_)
      have he := he.trans (if_pos z)
      refine ⟨1, _, by decide, m_opens hN (by omega) hin (Int32.ofInt 13), ?_⟩
      rintro hp' w ⟨hq, rfl⟩
      refine brBB (fun z => ⟨rfl, fin false _ _ (he.trans (if_neg (by rw [z]; decide))) hq⟩) (fun z => nxt _ _ _ _ _ (he.trans (if_pos z)) hq)
  | false =>
    refine run_sound okX8_eRead cNe 300 (brT rfl (And.intro (fun q => ?_) (fun q => And.intro (fun q2 => ?_) (fun q2 => ?_))))
    · have he : stE false bv (N.1 23) (N.1 24) p = _ := (if_neg (by decide)).trans (if_pos q)
      refine ⟨1, _, by decide, m_unwinds hN htx htx6 (by omega) hin (Int32.ofInt 1), ?_⟩
      rintro hp' w ⟨hq, rfl⟩
      obtain ⟨cd', hd', ho', hs', rfl⟩ := hq
      revert he ho' hs'
      generalize unwF (Int32.ofInt 1) p.1 p.2.1 p.2.2 = z
      obtain ⟨zh, zo, zc⟩ := z
      intro he ho' hs'
      cases zh with
      | nil => exact And.intro (fun _ => ⟨rfl, fin true _ _ he ⟨cd', hd', ho', hs', rfl⟩⟩) (fun z => absurd rfl z)
      | cons t zh =>
        have hl : zh.length + 1 ≤ 200 := hs'.2.1
        exact And.intro (fun z => absurd ((nI_eq (a := zh.length + 1) (b := 0) (by omega) (by decide)).mp z) (Nat.succ_ne_zero _)) (fun _ => ⟨rfl, fin false _ _ he ⟨cd', hd', ho', hs', rfl⟩⟩)
    · have he : stE false bv (N.1 23) (N.1 24) p = _ := (if_neg (by decide)).trans ((if_neg q).trans (if_pos q2))
      have hlen : (unwF (Int32.ofInt 1) p.1 p.2.1 p.2.2).1.length + (unwF (Int32.ofInt 1) p.1 p.2.1 p.2.2).2.2.length < 199 := by rw [unwF_len]; exact hb
      refine ⟨1, _, by decide, m_unwinds hN htx htx6 (by omega) hin (Int32.ofInt 1), ?_⟩
      rintro hp' w ⟨hq, rfl⟩
      obtain ⟨cd', hd', ho', hs', rfl⟩ := hq
      revert he ho' hs' hlen
      generalize unwF (Int32.ofInt 1) p.1 p.2.1 p.2.2 = z
      obtain ⟨zh, zo, zc⟩ := z
      intro he hlen ho' hs'
      cases zh with
      | nil => exact And.intro (fun _ => ⟨rfl, fin false _ _ he ⟨cd', hd', ho', hs', rfl⟩⟩) (fun z => absurd rfl z)
      | cons t zh =>
        have hl : zh.length + 1 + zc.length < 199 := hlen
        have e1 : nI (t :: zh).length - Int32.ofInt 1 = nI zh.length := nI_m1 (n := zh.length + 1) (by omega)
        refine And.intro (fun z => absurd ((nI_eq (a := zh.length + 1) (b := 0) (by omega) (by decide)).mp z) (Nat.succ_ne_zero _)) (fun _ => And.intro rfl (And.intro trivial (And.intro rfl (And.intro trivial ?_))))
        have hin2 : InP S N cd0 tx (zh, zo - Int32.ofInt 1, zc) (mk S (pM N cd' hd' (nI (t :: zh).length - Int32.ofInt 1) (zo - Int32.ofInt 1) (nI zc.length))) := ⟨cd', hd', ho', hs'.pop, by rw [e1]⟩
        refine ⟨1, _, by decide, m_unwinds hN htx htx6 (p := (zh, zo - Int32.ofInt 1, zc)) (by show zh.length + zc.length ≤ 200; omega) hin2 (Int32.ofInt 7), ?_⟩
        rintro hp' w ⟨hq, rfl⟩
        exact nxt _ _ _ _ _ he hq
    · refine kH (m_signOf (M := pM N cd hd (nI p.1.length) p.2.1 (nI p.2.2.length))) (by decide) (br (fun q3 => ?_) (fun q3 => ?_))
      · exact ⟨rfl, fin false _ _ ((if_neg (by decide)).trans ((if_neg q).trans ((if_neg q2).trans (if_pos q3)))) hin⟩
      · have he : stE false bv (N.1 23) (N.1 24) p = _ := (if_neg (by decide)).trans ((if_neg q).trans ((if_neg q2).trans (if_neg q3)))
        refine ⟨2, _, by decide, m_between hN htx htx6 (by omega) hin (sgF (N.1 23)), ?_⟩
        rintro hp' w ⟨hq, rfl⟩
        refine brBB (fun z => ⟨rfl, fin false _ _ (he.trans (if_neg (by rw [z]; decide))) hq⟩) (fun z => ?_)
        have he := he.trans (if_pos z)
        refine br (fun q4 => ?_) (fun q4 => ?_)
        · have e4 : lt12 (sgF (N.1 23)) = false := if_pos q4
          rw [e4] at he
          exact nxt _ _ _ _ _ he hq
        · have e4 : lt12 (sgF (N.1 23)) = true := if_neg q4
          rw [e4] at he
          exact nxt _ _ _ _ _ he hq
end EREAD
