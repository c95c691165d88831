/-! THE LAW, FROM ITS LOOP'S HEAD -/
section
variable {p : Program} {l : Launch} {en : Env} {R : Room} {s : State} {m : MethodId} {args : Array Value} {below : List Frame} {meth : Method} {c : Code} {Qw : State → Prop} {w : Wn} {kc ks n0 nmax : Nat} {ls st : List Value} {M : Mm} {L : Nat} {xs : Nat → Int32}
theorem segL {t : Nat} {n : Nat} {K : Nat → List Value → List Value → Mm → Prop} (h15 : SD15 l w) (hokM : ∀ k, k < 339 → okM k = true) (X : Ctx p R s m args c w 16 7 kc ks n0 nmax code) (hR1 : 13 ≤ R.frames) (hR2 : 468 ≤ R.locals) (hX : va_X (w.2.2.2.2 9) L xs s s.heap) (hb : w.2.2.2.2 9 < w.1) (hL : L ≤ 3072)
    (hret : ∀ pc ls M, decode code pc = .ok (.ireturn, 1) → Wst p l en R s m args below meth c Qw w 7 kc ks n0 nmax pc ls [.int 1] M)
    (hK : ∀ t ls st M, K t ls st M → Wst p l en R s m args below meth c Qw w 7 kc ks n0 nmax t ls st M)
    (h : GnN (ClL 12 L xs) mcT 2 nmax (fun r _ => r = some (.int 1)) K m_L n (sfx m_L t) ls st M) : Wst p l en R s m args below meth c Qw w 7 kc ks n0 nmax t ls st M :=
  segN (fun k as M P P' => ClL_mono k as M P P') m_L_ok.1 m_L_ok.2 (fun t e rest hs hbf ls st M h => by
    rw [← sfx_head hs]
    refine sdL h15 hokM X hR1 hR2 hX hb hL (sfx_mem hs e List.mem_cons_self) (fun hh => ?_) hret h
    have := List.all_eq_true.mp m_L_398 e (sfx_mem hs e List.mem_cons_self)
    rw [hh, hbf] at this
    cases this) hK h
theorem segT {t : Nat} {n : Nat} {K : Nat → List Value → List Value → Mm → Prop} (h15 : SD15 l w) (hokM : ∀ k, k < 339 → okM k = true) (X : Ctx p R s m args c w 16 7 kc ks n0 nmax code) (hR1 : 13 ≤ R.frames) (hR2 : 468 ≤ R.locals) (hX : va_X (w.2.2.2.2 9) L xs s s.heap) (hb : w.2.2.2.2 9 < w.1) (hL : L ≤ 3072)
    (hret : ∀ pc ls M, decode code pc = .ok (.ireturn, 1) → Wst p l en R s m args below meth c Qw w 7 kc ks n0 nmax pc ls [.int 1] M)
    (hK : ∀ t ls st M, K t ls st M → Wst p l en R s m args below meth c Qw w 7 kc ks n0 nmax t ls st M) (ht : t ≠ 398)
    (h : match sfx m_L t with
      | e :: rest => stpN (ClL 12 L xs) mcT 2 nmax (fun r _ => r = some (.int 1)) (fun t => GnN (ClL 12 L xs) mcT 2 nmax (fun r _ => r = some (.int 1)) K m_L n (sfx m_L t)) e (GnN (ClL 12 L xs) mcT 2 nmax (fun r _ => r = some (.int 1)) K m_L n rest) ls st M
      | [] => False) : Wst p l en R s m args below meth c Qw w 7 kc ks n0 nmax t ls st M := by
  cases hs : sfx m_L t with
  | nil => rw [hs] at h; exact h.elim
  | cons e rest =>
    rw [hs] at h
    exact segH h15 hokM X hR1 hR2 hX hb hL hret hK hs (by rw [sfx_head hs]; exact ht) h
set_option maxRecDepth 20000 in
theorem law_loop (h15 : SD15 l w) (hokM : ∀ k, k < 339 → okM k = true) (X : ∀ kc, kc ≤ 512 → Ctx p R s m args c w 16 7 kc (6 * kc) 0 136 code) (hR1 : 13 ≤ R.frames) (hR2 : 468 ≤ R.locals) (hX : va_X (w.2.2.2.2 9) L xs s s.heap) (hb : w.2.2.2.2 9 < w.1) (hL : L ≤ 3072)
    (hret : ∀ kc, kc ≤ 512 → ∀ pc ls M, decode code pc = .ok (.ireturn, 1) → Wst p l en R s m args below meth c Qw w 7 kc (6 * kc) 0 136 pc ls [.int 1] M)
    (hlook : ∀ kc, kc < 512 → ∀ (A : St) (mi : Nat → Nat → Int32) (ml : Nat → Nat → Int64) (rd : Option Nat) (ls : List Value) (x y : Int32), CI A mi → wfA A →
      (∀ ml' : Nat → Nat → Int64, ml' 95 = ml 95 → ((aLook A x y).1 = 0 → ml' 135 0 = (aLook A x y).2.toInt64) → Wst p l en R s m args below meth c Qw w 7 (kc + 1) (6 * (kc + 1)) 0 136 401 ls [.int (nI (aLook A x y).1)] (mi, ml', R0 rd, 136)) →
      Wst p l en R s m args below meth c Qw w 7 kc (6 * kc) 0 136 398 ls [.ref 135, .int y, .int x, .ref 0] (mi, ml, R0 rd, 136)) :
    ∀ (n t kc : Nat) (A : St) (mi : Nat → Nat → Int32) (ml : Nat → Nat → Int64) (rd : Option Nat) (v5 v6 : Value), L ≤ 6 * t + 6 * n → 6 * t ≤ L → kc ≤ t → CI A mi → MI A mi ml → wfA A →
      Wst p l en R s m args below meth c Qw w 7 kc (6 * kc) 0 136 23 [.ref 901, .ref 0, .ref 95, .ref 135, .int (nI (6 * t)), v5, v6] [] (mi, ml, R0 rd, 136) := by
  intro n
  induction n with
  | zero =>
    intro t kc A mi ml rd v5 v6 h1 h2 h3 hA hM hw
    refine segT (n := 1000) (K := Wst p l en R s m args below meth c Qw w 7 kc (6 * kc) 0 136) h15 hokM (X kc (by omega)) hR1 hR2 hX hb hL (hret kc (by omega)) (fun _ _ _ _ z => z) (by decide) (lc_top (fun _ _ _ _ z => z) hL h2 (fun h6 => ?_) (fun h6 => ?_))
    · exact absurd h6 (by omega)
    · exact absurd h6 (by omega)
  | succ n ih =>
    intro t kc A mi ml rd v5 v6 h1 h2 h3 hA hM hw
    refine segT (n := 1000) (K := Wst p l en R s m args below meth c Qw w 7 kc (6 * kc) 0 136) h15 hokM (X kc (by omega)) hR1 hR2 hX hb hL (hret kc (by omega)) (fun _ _ _ _ z => z) (by decide) (lc_top (fun _ _ _ _ z => z) hL h2 (fun h6 => ?_) (fun h6 => ?_))
    · have H : CsH (ClL 12 L xs) (Wst p l en R s m args below meth c Qw w 7 kc (6 * kc) 0 136) L xs (6 * t) := ⟨fun _ _ _ _ z => z, h6, hL, fun A mi ml rd v5 v6 hA hM hw => by
        rw [nI_add, show 6 * t + 6 = 6 * (t + 1) by omega]
        exact ih (t + 1) kc A mi ml rd v5 v6 (by omega) (by omega) (by omega) hA hM hw⟩
      have H' : CsH (ClL 12 L xs) (Wst p l en R s m args below meth c Qw w 7 (kc + 1) (6 * (kc + 1)) 0 136) L xs (6 * t) := ⟨fun _ _ _ _ z => z, h6, hL, fun A mi ml rd v5 v6 hA hM hw => by
        rw [nI_add, show 6 * t + 6 = 6 * (t + 1) by omega]
        exact ih (t + 1) (kc + 1) A mi ml rd v5 v6 (by omega) (by omega) (by omega) hA hM hw⟩
      refine lc_all H hA hM hw (hlook kc (by omega) A mi ml rd _ _ _ hA hw (fun ml' e1 e2 => ?_))
      exact segL (n := 989) (K := Wst p l en R s m args below meth c Qw w 7 (kc + 1) (6 * (kc + 1)) 0 136) h15 hokM (X (kc + 1) (by omega)) hR1 hR2 hX hb hL (hret (kc + 1) (by omega)) (fun _ _ _ _ z => z) (lc_401 H' hA (hM.up2 e1) hw e2)
    · have H : CsH (ClL 12 L xs) (Wst p l en R s m args below meth c Qw w 7 kc (6 * kc) 0 136) L xs (6 * t) := ⟨fun _ _ _ _ z => z, h6, hL, fun A mi ml rd v5 v6 hA hM hw => by
        rw [nI_add, show 6 * t + 6 = 6 * (t + 1) by omega]
        exact ih (t + 1) kc A mi ml rd v5 v6 (by omega) (by omega) (by omega) hA hM hw⟩
      exact lc_def H hA hM hw
end
