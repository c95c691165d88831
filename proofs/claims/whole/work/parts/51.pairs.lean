/-! TWO WORDS, EVERY PAIR OF PLACES (the class) -/
theorem pbN_bd {c1 : Nat → Option Nat} {more : Nat → Nat → Option Nat} {sk : Nat → Bool} {ok : Nat → Nat → Bool} {n : Nat} (h1 : ∀ j c, c1 j = some c → c ≤ 5346) (hm : ∀ p j m, more p j = some m → m ≤ 5346) (hn : n ≤ 96) : ∀ j, j ≤ n → prB (pbN c1 more sk ok n j)
  | 0, _ => trivial
  | j + 1, hj => by
    have ih := pbN_bd (sk := sk) (ok := ok) h1 hm hn j (by omega)
    unfold pbN
    split
    · rename_i c hc _
      exact poN_bd ih (hm j) (h1 j c hc) (by omega) hn n (Nat.le_refl _)
    · exact ih
theorem CS.sh {b : Nat} {S T : Nat → Nat → Nat} {mi : Nat → Nat → Int32} (h : CS b S mi) (hs : wfS T S) : ∀ f, f < 48 → mi (b + 1) f = nI (S 1 f) ∧ S 1 f ≤ 511 := fun f hf => ⟨h.shape f hf, hs.sh f⟩
section
variable {d : Nat} {Q : Option Value → Mm → Prop} {T S : Nat → Nat → Nat} {mi : Nat → Nat → Int32} {ml : Nat → Nat → Int64} {rd : Option Nat}
set_option maxHeartbeats 1000000 in
theorem s_placeBoth (hT : CT 0 T mi) (hw : wfT T) (hS : CS 70 S mi) (hs : wfS T S) {one two : Nat} {x : Bool} (h1 : one < T 0 4) (h2 : two < T 0 4)
    (hQ : ∀ mi', Fr [84, 86, 87, 88] mi mi' → PR (pairN T (S 1) one two x) (mi' 84) → Q none (mi', ml, R0 rd, 136)) : Cd (d + 5) k_Search_placeBoth [.ref 84, .int (nI one), .int (nI two), .int (nI x.toNat)] (mi, ml, R0 rd, 136) Q := by
  have hfl := hw.fl
  have lp : ∀ j, j ≤ 2 * (T 0 0 * T 0 1) → ∀ v6 v7, ∀ mi', Fr [84, 86, 87, 88] mi mi' → PR (pbN (fun p => costN T (S 1) (feA T) one (p / 2) (p % 2)) (fun p q => costN T (putN T (S 1) one (p / 2) (p % 2)) (feA T) two (q / 2) (q % 2)) (fun p => x && !(p % 2 == 0)) (fun p q => !x || crN T one p two q) (2 * (T 0 0 * T 0 1)) j) (mi' 84) → GoM (d + 4) k_Search_placeBoth 136 Q 15 [.ref 84, .int (nI one), .int (nI two), .int (nI x.toNat), .int (nI (2 * (T 0 0 * T 0 1))), .int (nI j), v6, v7] [] (mi', ml, R0 rd, 136) := by
    refine upto ?_ ?_
    · intro v6 v7 mi' hf hg
      refine g_Search_placeBoth (fun K Kl hK hC => ?_)
      exact ⟨fun h => ⟨rfl, hQ mi' hf hg⟩, fun h => absurd (iNLE h) (by omega)⟩
    · intro j hj ih v6 v7 mi' hf hg
      have hT' := hT.fr hf rfl
      have hS' := hS.fr hf rfl rfl rfl
      have hbd := pbN_bd (c1 := fun p => costN T (S 1) (feA T) one (p / 2) (p % 2)) (more := fun p q => costN T (putN T (S 1) one (p / 2) (p % 2)) (feA T) two (q / 2) (q % 2)) (sk := fun p => x && !(p % 2 == 0)) (ok := fun p q => !x || crN T one p two q) (n := 2 * (T 0 0 * T 0 1)) (fun j c he => costN_le (feA_le hw) he) (fun p j m he => costN_le (feA_le hw) he) (by omega) j (by omega)
      refine g_Search_placeBoth (fun K Kl hK hC => ?_)
      refine ⟨fun h => absurd (iLE h) (by omega), fun h => ?_⟩
      refine ⟨by decide, ?_⟩
      rw [pk_div (by omega) (by omega) (by omega)]
      refine ⟨by decide, ?_⟩
      rw [pk_rem (by omega) (by omega) (by omega)]
      refine hC _ _ _ _ (s_costOf (Or.inl rfl) (Or.inl rfl) hT' hw (hS'.sh hs) (hT'.feeA hw) h1 (pl_half hj) (by omega) ?_)
      cases hc : costN T (S 1) (feA T) one (j / 2) (j % 2) with
      | none =>
        have ih := ih (.int (-2)) (.int (nI 0)) mi' hf (by unfold pbN; simp only [hc]; exact hg)
        rw [nI1] at ih
        exact ⟨fun _ => ⟨fun _ => hK _ _ _ _ ih, fun h3 => absurd (by decide) h3⟩, fun h3 => absurd (by decide) h3⟩
      | some c =>
        have hcl := costN_le (feA_le hw) hc
        refine ⟨fun h3 => (iNN h3).elim, fun _ => ?_⟩
        cases hr : pbN (fun p => costN T (S 1) (feA T) one (p / 2) (p % 2)) (fun p q => costN T (putN T (S 1) one (p / 2) (p % 2)) (feA T) two (q / 2) (q % 2)) (fun p => x && !(p % 2 == 0)) (fun p q => !x || crN T one p two q) (2 * (T 0 0 * T 0 1)) j with
        | none =>
          rw [hr] at hg hbd
          have hg1 : mi' 84 1 = -2 := hg
          refine ⟨fun _ => ⟨fun h3 => absurd h3 (by decide), fun _ => ?_⟩, fun h3 => absurd (show mi' 84 1 < 0 by rw [hg1]; decide) h3⟩
          cases x
          · refine ⟨fun _ => ?_, fun h3 => absurd (by decide) h3⟩
            refine hC _ _ _ _ (s_copy (Or.inl ⟨rfl, rfl⟩) hS' (fun mi2 hf2 hS2 => ?_))
            have hf3 : Fr [84, 86, 87, 88] mi mi2 := hf.trans (hf2.mono rfl)
            have hT2 := hT.fr hf3 rfl
            refine ⟨by decide, ?_⟩
            rw [pk_div (by omega) (by omega) (by omega)]
            refine ⟨by decide, ?_⟩
            rw [pk_rem (by omega) (by omega) (by omega)]
            refine hC _ _ _ _ (s_put (Or.inr rfl) hT2 hw (fun f hf => hS2.shape f hf) h1 (pl_half hj) (by omega) (fun g hgp => ?_))
            have hf4 : Fr [84, 86, 87, 88] mi (cu mi2 87 g) := hf3.cu rfl
            have hT3 := hT.fr hf4 rfl
            refine hC _ _ _ _ (s_placeOther (sh := putN T (S 1) one (j / 2) (j % 2)) (r := none) (x := false) hT3 hw (fun f hf => ⟨hgp f hf, putN_le hw hs.sh _ _ _ _⟩) h1 h2 (by omega) hcl hbd (by rw [show cu mi2 87 g 84 = mi' 84 from hf2 84 rfl]; exact hg) (fun g2 hg2 => ?_))
            have ih := ih (.int (nI c)) (.int (nI 1)) (cu (cu mi2 87 g) 84 g2) (hf4.cu rfl) (by
              unfold pbN
              simp only [hc, show (false && !(j % 2 == 0)) = false from rfl]
              rw [hr]
              exact hg2)
            rw [nI1] at ih
            exact hK _ _ _ _ ih
          · refine ⟨fun h3 => absurd h3 (by decide), fun _ => ⟨by decide, ?_⟩⟩
            rw [pk_rem (by omega) (by omega) (by omega)]
            refine ⟨fun h3 => ?_, fun h3 => ?_⟩
            · have h3 := iNZ h3
              have ih := ih (.int (nI c)) (.int (nI 1)) mi' hf (by unfold pbN; simp only [hc, show (true && !(j % 2 == 0)) = true by simp [h3]]; rw [hr]; exact hg)
              rw [nI1] at ih
              exact hK _ _ _ _ ih
            · have h3 := iZ h3
              refine hC _ _ _ _ (s_copy (Or.inl ⟨rfl, rfl⟩) hS' (fun mi2 hf2 hS2 => ?_))
              have hf3 : Fr [84, 86, 87, 88] mi mi2 := hf.trans (hf2.mono rfl)
              have hT2 := hT.fr hf3 rfl
              refine ⟨by decide, ?_⟩
              rw [pk_div (by omega) (by omega) (by omega)]
              refine ⟨by decide, ?_⟩
              rw [pk_rem (by omega) (by omega) (by omega)]
              refine hC _ _ _ _ (s_put (Or.inr rfl) hT2 hw (fun f hf => hS2.shape f hf) h1 (pl_half hj) (by omega) (fun g hgp => ?_))
              have hf4 : Fr [84, 86, 87, 88] mi (cu mi2 87 g) := hf3.cu rfl
              have hT3 := hT.fr hf4 rfl
              refine hC _ _ _ _ (s_placeOther (sh := putN T (S 1) one (j / 2) (j % 2)) (r := none) (x := true) hT3 hw (fun f hf => ⟨hgp f hf, putN_le hw hs.sh _ _ _ _⟩) h1 h2 (by omega) hcl hbd (by rw [show cu mi2 87 g 84 = mi' 84 from hf2 84 rfl]; exact hg) (fun g2 hg2 => ?_))
              have ih := ih (.int (nI c)) (.int (nI 1)) (cu (cu mi2 87 g) 84 g2) (hf4.cu rfl) (by
                unfold pbN
                simp only [hc, show (true && !(j % 2 == 0)) = false by simp [h3]]
                rw [hr]
                exact hg2)
              rw [nI1] at ih
              exact hK _ _ _ _ ih
        | some t =>
          obtain ⟨y, a, b⟩ := t
          rw [hr] at hg hbd
          have hy1 : y ≤ 11000 := hbd.1
          have hg1 : mi' 84 1 = nI y := hg.1
          refine ⟨fun h3 => by rw [hg1] at h3; exact (iNN h3).elim, fun _ => ⟨fun h3 => ?_, fun h3 => ?_⟩⟩
          · rw [hg1] at h3
            have h3 : nI y ≤ nI c := h3
            have h3 := iLE h3
            have ih := ih (.int (nI c)) (.int (nI 0)) mi' hf (by
              unfold pbN
              cases hsk : (x && !(j % 2 == 0))
              · simp only [hc, hsk]; rw [hr, poN_idle h3]; exact hg
              · simp only [hc, hsk]; rw [hr]; exact hg)
            rw [nI1] at ih
            exact ⟨fun _ => hK _ _ _ _ ih, fun h3 => absurd (by decide) h3⟩
          · refine ⟨fun h3 => absurd h3 (by decide), fun _ => ?_⟩
            cases x
            · refine ⟨fun _ => ?_, fun h3 => absurd (by decide) h3⟩
              refine hC _ _ _ _ (s_copy (Or.inl ⟨rfl, rfl⟩) hS' (fun mi2 hf2 hS2 => ?_))
              have hf3 : Fr [84, 86, 87, 88] mi mi2 := hf.trans (hf2.mono rfl)
              have hT2 := hT.fr hf3 rfl
              refine ⟨by decide, ?_⟩
              rw [pk_div (by omega) (by omega) (by omega)]
              refine ⟨by decide, ?_⟩
              rw [pk_rem (by omega) (by omega) (by omega)]
              refine hC _ _ _ _ (s_put (Or.inr rfl) hT2 hw (fun f hf => hS2.shape f hf) h1 (pl_half hj) (by omega) (fun g hgp => ?_))
              have hf4 : Fr [84, 86, 87, 88] mi (cu mi2 87 g) := hf3.cu rfl
              have hT3 := hT.fr hf4 rfl
              refine hC _ _ _ _ (s_placeOther (sh := putN T (S 1) one (j / 2) (j % 2)) (r := some (y, a, b)) (x := false) hT3 hw (fun f hf => ⟨hgp f hf, putN_le hw hs.sh _ _ _ _⟩) h1 h2 (by omega) hcl hbd (by rw [show cu mi2 87 g 84 = mi' 84 from hf2 84 rfl]; exact hg) (fun g2 hg2 => ?_))
              have ih := ih (.int (nI c)) (.int (nI 1)) (cu (cu mi2 87 g) 84 g2) (hf4.cu rfl) (by
                unfold pbN
                simp only [hc, show (false && !(j % 2 == 0)) = false from rfl]
                rw [hr]
                exact hg2)
              rw [nI1] at ih
              exact hK _ _ _ _ ih
            · refine ⟨fun h3 => absurd h3 (by decide), fun _ => ⟨by decide, ?_⟩⟩
              rw [pk_rem (by omega) (by omega) (by omega)]
              refine ⟨fun h3 => ?_, fun h3 => ?_⟩
              · have h3 := iNZ h3
                have ih := ih (.int (nI c)) (.int (nI 1)) mi' hf (by unfold pbN; simp only [hc, show (true && !(j % 2 == 0)) = true by simp [h3]]; rw [hr]; exact hg)
                rw [nI1] at ih
                exact hK _ _ _ _ ih
              · have h3 := iZ h3
                refine hC _ _ _ _ (s_copy (Or.inl ⟨rfl, rfl⟩) hS' (fun mi2 hf2 hS2 => ?_))
                have hf3 : Fr [84, 86, 87, 88] mi mi2 := hf.trans (hf2.mono rfl)
                have hT2 := hT.fr hf3 rfl
                refine ⟨by decide, ?_⟩
                rw [pk_div (by omega) (by omega) (by omega)]
                refine ⟨by decide, ?_⟩
                rw [pk_rem (by omega) (by omega) (by omega)]
                refine hC _ _ _ _ (s_put (Or.inr rfl) hT2 hw (fun f hf => hS2.shape f hf) h1 (pl_half hj) (by omega) (fun g hgp => ?_))
                have hf4 : Fr [84, 86, 87, 88] mi (cu mi2 87 g) := hf3.cu rfl
                have hT3 := hT.fr hf4 rfl
                refine hC _ _ _ _ (s_placeOther (sh := putN T (S 1) one (j / 2) (j % 2)) (r := some (y, a, b)) (x := true) hT3 hw (fun f hf => ⟨hgp f hf, putN_le hw hs.sh _ _ _ _⟩) h1 h2 (by omega) hcl hbd (by rw [show cu mi2 87 g 84 = mi' 84 from hf2 84 rfl]; exact hg) (fun g2 hg2 => ?_))
                have ih := ih (.int (nI c)) (.int (nI 1)) (cu (cu mi2 87 g) 84 g2) (hf4.cu rfl) (by
                  unfold pbN
                  simp only [hc, show (true && !(j % 2 == 0)) = false by simp [h3]]
                  rw [hr]
                  exact hg2)
                rw [nI1] at ih
                exact hK _ _ _ _ ih
  refine r_Search_placeBoth (by decide) (fun K Kl hK hC => ?_)
  refine hC _ _ _ _ (s_places (hT.keep (fun c _ _ => cu_ne (by omega))) hw ?_)
  exact hK _ _ _ _ (lp 0 (Nat.zero_le _) _ _ _ (Fr.cu Fr.none rfl) rfl)
theorem s_shareOf {sh : Nat → Nat} (hT : CT 0 T mi) (hw : wfT T) (hsh : ∀ f, f < 48 → mi 71 f = nI (sh f) ∧ sh f ≤ 511) {a b x ca cb : Nat} (ha : a < T 0 4) (hb : b < T 0 4) (hx : mi 84 1 = nI x) (hxl : x ≤ 11000)
    (hca : ∃ p, chN (fun p => costN T sh (feA T) a (p / 2) (p % 2)) (2 * (T 0 0 * T 0 1)) = some (p, ca)) (hcb : ∃ p, chN (fun p => costN T sh (feA T) b (p / 2) (p % 2)) (2 * (T 0 0 * T 0 1)) = some (p, cb))
    (hQ : ∀ mi', Fr [84] mi mi' → Q (some (.int (nI ca - (nI ca + nI cb - nI x) / nI 2))) (mi', ml, R0 rd, 136)) : Cd (d + 5) k_Search_shareOf [.ref 84, .int (nI a), .int (nI b)] (mi, ml, R0 rd, 136) Q := by
  obtain ⟨pa, hpa⟩ := hca
  obtain ⟨pb, hpb⟩ := hcb
  refine r_Search_shareOf (by decide) (fun K Kl hK hC => ?_)
  refine hC _ _ _ _ (s_cheapestPlace (Or.inl rfl) (Or.inl rfl) hT hw hsh (hT.feeA hw) (feA_le hw) hb ?_)
  rw [hpb]
  have hT' : CT 0 T (cu mi 84 (upd (mi 84) 0 (chC (some (pb, cb))))) := hT.keep (fun c _ _ => cu_ne (by omega))
  refine hC _ _ _ _ (s_cheapestPlace (Or.inl rfl) (Or.inl rfl) hT' hw hsh (hT'.feeA hw) (feA_le hw) ha ?_)
  rw [hpa]
  refine ⟨by decide, rfl, ?_⟩
  have := hQ _ (Fr.cu (Fr.cu Fr.none rfl) rfl : Fr [84] mi (cu (cu mi 84 (upd (mi 84) 0 (chC (some (pb, cb))))) 84 (upd (cu mi 84 (upd (mi 84) 0 (chC (some (pb, cb)))) 84) 0 (chC (some (pa, ca))))))
  rw [← hx] at this
  exact this
end
