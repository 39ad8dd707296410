/-! P30: the text's calls, a rule is added -/
/-- the text's reader is elsewhere -/
theorem KSr.text {D : LD} {h : Nat → MC} {P : PgS} {x : KD} {s : KS} (H : KSr D h P x s) (tl : Nat) (s' : KS) : KSr (D.1, tl, D.2.2) (mov (txC tl s') h) P x s' := by
  obtain ⟨k1, k2, k3, k4, k5⟩ := H
  refine ⟨k1.keep (fun j hj => tx_o _ _ _ (by omega)), ⟨mov_idem _ _, (tx_o _ _ _ (by omega)).trans k2.2⟩, (tx_o _ _ _ (by omega)).trans k3, (tx_o _ _ _ (by omega)).trans k4, fun i hi => ?_⟩
  obtain ⟨P', g1, g2⟩ := k5 i hi
  exact ⟨P', g1.keep (fun j q1 q2 => tx_o _ _ _ (by omega)), g2⟩
theorem ko_clear {D : LD} {h : Nat → MC} {n : Nat} (hK : KSd D h) : Sp M_X9_clearText 8 0 0 [.ref 0] h n (KRet (fun r => r = some (.int (nI D.2.1))) (D.1, 0, D.2.2) h) := by
  obtain ⟨P, x, s, hk⟩ := hK
  exact sp_imp (c_kclearText 8 n D.2.1 D.2.2.1 s x.1 h hk.1.1.c0 hk.2.1) fun r h1 hq => by
    obtain ⟨rfl, rfl⟩ := hq
    exact ⟨rfl, fun j hj => tx_o _ _ _ (by omega), P, x, s, hk.text 0 s⟩
theorem ko_fault {D : LD} {h : Nat → MC} {n : Nat} (hD : DOk D) (hK : KSd D h) (hf : ∀ R, ffV D.1 D.2.2.1 D.2.1 R = -5) : Sp M_X9_faultPosition 8 0 0 [.ref 0] h n (KRet (fun r => r = some (.int (-5))) D h) := by
  obtain ⟨P, x, s, hk⟩ := hK
  exact sp_imp (c_kfault 3 n D.2.1 D.1 D.2.2.1 P s x.1 h hk.1.1.c0 hk.2.1 hD.2.2 hD.2.1 hk.1.2.1 hk.1.2.2.1 hD.1) fun r h1 hq => by
    obtain ⟨rfl, rfl⟩ := hq
    rw [hf]
    exact ⟨rfl, fun j hj => tx_o _ _ _ (by omega), P, x, _, hk.text D.2.1 _⟩
/-- the numbers with the text's rule added -/
def adV (D : LD) (p : Nat) : Nat → Nat := addRuleV D.1 p (rdText D.1 D.2.2.1 D.2.1 (fun _ => 0)).2.1 (rdText D.1 D.2.2.1 D.2.1 (fun _ => 0)).2.2.2
theorem ko_addRule {D : LD} {h : Nat → MC} {n p : Nat} (hD : DOk D) (hK : KSd D h) (hf : ∀ R, ffV D.1 D.2.2.1 D.2.1 R = -5) (hp1 : 1 ≤ p) (hp9 : p ≤ 9) (h8 : D.1 2 < 8) : Sp M_X9_addRule 8 0 0 [.ref 0, .int (nI p)] h n (KRet (fun r => r = some (.int (nI (D.1 2)))) (adV D p, D.2) h) := by
  obtain ⟨P, x, s, hk⟩ := hK
  have K := c_kaddRule 3 n D.2.1 (nI p) D.1 smC.2 D.2.2.1 P x s h hk.1 hk.2.1 hD.2.2 hD.2.1
  have hkt := hk.text D.2.1 (kdRule D.1 D.2.2.1 D.2.1 s.2).2
  exact sp_imp K fun r h1 hq => by
    obtain ⟨b1, b2, b3⟩ := hkt.change (((hq.2 p rfl ⟨hp1, hp9⟩).2 (hf s.2)).2 (by omega) (fun _ => 0))
    exact ⟨b1, fun j hj => (b2 j hj).trans (tx_o _ _ _ (by omega)), b3⟩
theorem LV.addRule {D : LD} {h : Nat → MC} {p : Nat} {W : RuS} (hD : DOk D) (hK : KSd D h) (hV : LV D.1) (hW : RuW D.1 W) (hB : Bnd W) (hT : Rst D.2.2.1 D.2.1 0 (ruL2 D.1 W)) (hp1 : 1 ≤ p) (hp9 : p ≤ 9) (h8 : D.1 2 < 8) : LV (adV D p) ∧ adV D p 0 = D.1 0 ∧ adV D p 1 = D.1 1 ∧ adV D p 2 = D.1 2 + 1 ∧ ∀ q, q < 6 → adV D p (3 + q) = D.1 (3 + q) := by
  obtain ⟨P, x, s, hk⟩ := hK
  obtain ⟨hok, h3, hVB, hVH⟩ := hV
  have hf := fault_no hok hD.2.2 hW hB hT s.2
  have hF := (text_eq hok.2.1 hD.2.2 hD.2.1 (fun _ => 0) s.2).2.1.mpr hf
  obtain ⟨a1, a2, -⟩ := add_ok (R := s.2) (p := p) (td := fun _ => 0) hok hk.1.2.2.1 hk.1.2.2.2.1 h8 hp1 hp9 hD.2.2 hD.2.1 hF
  have e0 : adV D p 0 = D.1 0 := adV_o _ _ _ _ (by omega) (by omega)
  have e1 : adV D p 1 = D.1 1 := adV_o _ _ _ _ (by omega) (by omega)
  have e2 : adV D p 2 = D.1 2 + 1 := adV_2 _ _ _ _
  have ep : ∀ q, q < 6 → adV D p (3 + q) = D.1 (3 + q) := fun q hq => adV_o _ _ _ _ (by omega) (by omega)
  refine ⟨⟨a1, by rw [e0]; exact h3, fun k hk2 => ?_, fun r hr => ?_⟩, e0, e1, e2, ep⟩
  · rw [e1] at hk2
    have h12 := hok.2.2.1
    rw [show adV D p (9 + 3 * k) = D.1 (9 + 3 * k) from adV_o _ _ _ _ (by omega) (by omega)]
    exact (hVB k hk2).cg e0 ep
  · rw [e2] at hr
    by_cases q : r = D.1 2
    · subst q
      have hrc : P.rc = D.1 2 := hk.1.2.2.1.2.2.2.2.1
      have hru := a2.2.2.2.2.2 (D.1 2) (by rw [show addRuleV D.1 p (rdText D.1 D.2.2.1 D.2.1 (fun _ => 0)).2.1 (rdText D.1 D.2.2.1 D.2.1 (fun _ => 0)).2.2.2 2 = D.1 2 + 1 from adV_2 _ _ _ _]; omega)
      obtain ⟨-, -, hra⟩ := hru
      obtain ⟨g1, g2, g3, -⟩ := hra 0 (Nat.zero_le _)
      obtain ⟨-, -, hI⟩ := rule_ok hok hW hT s.2
      obtain ⟨i1, i2, i3, -⟩ := hI 0 (Nat.zero_le _)
      have z : updN P.ru P.rc ((kdRule D.1 D.2.2.1 D.2.1 s.2).2.2.pr, (kdRule D.1 D.2.2.1 D.2.1 s.2).2.2.fi, (kdRule D.1 D.2.2.1 D.2.1 s.2).2.2.se, (kdRule D.1 D.2.2.1 D.2.1 s.2).2.2.ng, (kdRule D.1 D.2.2.1 D.2.1 s.2).2.2.li, p) (D.1 2) = ((kdRule D.1 D.2.2.1 D.2.1 s.2).2.2.pr, (kdRule D.1 D.2.2.1 D.2.1 s.2).2.2.fi, (kdRule D.1 D.2.2.1 D.2.1 s.2).2.2.se, (kdRule D.1 D.2.2.1 D.2.1 s.2).2.2.ng, (kdRule D.1 D.2.2.1 D.2.1 s.2).2.2.li, p) := by
        rw [hrc]
        exact updN_same _ _ _
      have g1 : W.pr 0 = adV D p (45 + 18 * D.1 2 + 2 + 4 * 0) := i1.symm.trans ((congrArg (fun R : RuS => R.pr 0) z).symm.trans g1)
      have g2 : W.fi 0 = adV D p (45 + 18 * D.1 2 + 2 + 4 * 0 + 1) := i2.symm.trans ((congrArg (fun R : RuS => R.fi 0) z).symm.trans g2)
      have g3 : W.se 0 = adV D p (45 + 18 * D.1 2 + 2 + 4 * 0 + 2) := i3.symm.trans ((congrArg (fun R : RuS => R.se 0) z).symm.trans g3)
      obtain ⟨w1, w2, w3, w4⟩ := hW.2.2 0 (Nat.zero_le _)
      rw [← g1, ← g2, ← g3, e0, ep _ w1]
      exact ⟨w2.2, w3.2, w4⟩
    · exact VH.row hok e0 ep (show r < D.1 2 by omega) (fun j q1 q2 => adV_o _ _ _ _ (by omega) (by omega)) (hVH r (by omega))
