def m_X0_seenFrom : List En := [
  (0, .aload_n 0, 1, false, 0, (0, 0, 0, 0), .null, []),
  (1, .getfield 15, 3, false, 0, (0, 3, 2, 1), .null, []),
  (4, .iload_n 1, 1, false, 0, (1, 0, 0, 0), .null, []),
  (5, .iaload, 1, false, 5, (0, 0, 0, 0), .null, []),
  (6, .bipush (35), 2, false, 0, (0, 0, 0, 0), .int (nI 35), []),
  (8, .if_icmp .ne (11), 3, false, 2, (19, 0, 0, 0), .null, []),
  (11, .iload_n 2, 1, false, 0, (2, 0, 0, 0), .null, []),
  (12, .iload_n 2, 1, false, 0, (2, 0, 0, 0), .null, []),
  (13, .iconst (3), 1, false, 0, (0, 0, 0, 0), .int (nI 3), []),
  (14, .ishr, 1, false, 0, (0, 0, 0, 0), .null, []),
  (15, .iconst (-1), 1, false, 0, (0, 0, 0, 0), .int (-1), []),
  (16, .ixor, 1, false, 0, (0, 0, 0, 0), .null, []),
  (17, .iand, 1, false, 0, (0, 0, 0, 0), .null, []),
  (18, .ireturn, 1, false, 9, (0, 0, 0, 0), .null, []),
  (19, .aload_n 0, 1, false, 0, (0, 0, 0, 0), .null, []),
  (20, .getfield 15, 3, false, 0, (0, 3, 2, 1), .null, []),
  (23, .iload_n 1, 1, false, 0, (1, 0, 0, 0), .null, []),
  (24, .iaload, 1, false, 5, (0, 0, 0, 0), .null, []),
  (25, .bipush (36), 2, false, 0, (0, 0, 0, 0), .int (nI 36), []),
  (27, .if_icmp .ne (13), 3, false, 2, (40, 0, 0, 0), .null, []),
  (30, .iload_n 2, 1, false, 0, (2, 0, 0, 0), .null, []),
  (31, .iload_n 2, 1, false, 0, (2, 0, 0, 0), .null, []),
  (32, .iconst (3), 1, false, 0, (0, 0, 0, 0), .int (nI 3), []),
  (33, .ishl, 1, false, 0, (0, 0, 0, 0), .null, []),
  (34, .iconst (-1), 1, false, 0, (0, 0, 0, 0), .int (-1), []),
  (35, .ixor, 1, false, 0, (0, 0, 0, 0), .null, []),
  (36, .iand, 1, false, 0, (0, 0, 0, 0), .null, []),
  (37, .goto (4), 3, false, 3, (41, 0, 0, 0), .null, []),
  (40, .iload_n 2, 1, false, 0, (2, 0, 0, 0), .null, []),
  (41, .ireturn, 1, false, 9, (0, 0, 0, 0), .null, [])]
def m_X0_readFrom : List En := [
  (0, .iload_n 2, 1, false, 0, (2, 0, 0, 0), .null, []),
  (1, .ifCond .ne (5), 3, false, 2, (6, 0, 0, 0), .null, []),
  (4, .iconst (0), 1, false, 0, (0, 0, 0, 0), .int (nI 0), []),
  (5, .ireturn, 1, false, 9, (0, 0, 0, 0), .null, []),
  (6, .aload_n 0, 1, false, 0, (0, 0, 0, 0), .null, []),
  (7, .iload_n 1, 1, false, 0, (1, 0, 0, 0), .null, []),
  (8, .iload_n 2, 1, false, 0, (2, 0, 0, 0), .null, []),
  (9, .invokevirtual 34, 3, false, 8, (6, 3, 0, 0), .null, []),
  (12, .istore 4, 2, false, 1, (4, 0, 0, 0), .null, []),
  (14, .iconst (0), 1, false, 0, (0, 0, 0, 0), .int (nI 0), []),
  (15, .istore 5, 2, false, 1, (5, 0, 0, 0), .null, []),
  (17, .iload 5, 2, true, 0, (5, 0, 0, 0), .null, []),
  (19, .aload_n 3, 1, false, 0, (3, 0, 0, 0), .null, []),
  (20, .getfield 38, 3, false, 0, (6, 0, 0, 0), .null, []),
  (23, .if_icmp .ge (34), 3, false, 2, (57, 0, 0, 0), .null, []),
  (26, .aload_n 0, 1, false, 0, (0, 0, 0, 0), .null, []),
  (27, .iload_n 1, 1, false, 0, (1, 0, 0, 0), .null, []),
  (28, .aload_n 3, 1, false, 0, (3, 0, 0, 0), .null, []),
  (29, .getfield 43, 3, false, 0, (6, 3, 2, 1), .null, []),
  (32, .iload 5, 2, false, 0, (5, 0, 0, 0), .null, []),
  (34, .iaload, 1, false, 5, (0, 0, 0, 0), .null, []),
  (35, .invokevirtual 34, 3, false, 8, (6, 3, 0, 0), .null, []),
  (38, .iload 4, 2, false, 0, (4, 0, 0, 0), .null, []),
  (40, .if_icmp .ne (11), 3, false, 2, (51, 0, 0, 0), .null, []),
  (43, .aload_n 3, 1, false, 0, (3, 0, 0, 0), .null, []),
  (44, .getfield 46, 3, false, 0, (6, 2, 2, 1), .null, []),
  (47, .iload 5, 2, false, 0, (5, 0, 0, 0), .null, []),
  (49, .iaload, 1, false, 5, (0, 0, 0, 0), .null, []),
  (50, .ireturn, 1, false, 9, (0, 0, 0, 0), .null, []),
  (51, .iinc 5 (1), 3, false, 1, (5, 0, 0, 0), .int (nI 1), []),
  (54, .goto (-37), 3, false, 3, (17, 0, 0, 0), .null, []),
  (57, .iconst (0), 1, false, 0, (0, 0, 0, 0), .int (nI 0), []),
  (58, .ireturn, 1, false, 9, (0, 0, 0, 0), .null, [])]

def seenF (sg s : Int32) : Int32 := if sg = nI 35 then s &&& ((s >>> 3) ^^^ -1) else if sg = nI 36 then s &&& ((s <<< 3) ^^^ -1) else s
set_option maxRecDepth 100000 in
theorem t_seenFrom {Cl : Nat → List Value → Mm → (Option Value → Mm → Prop) → Prop} {mc : Nat → Nat} {nmax : Nat} {Q : Option Value → Mm → Prop} (hC : ∀ k as M (P P' : Option Value → Mm → Prop), (∀ r M', P r M' → P' r M') → Cl k as M P → Cl k as M P')
    (mi : Nat → Nat → Int32) (ml : Nat → Nat → Int64) (rd : Option Nat) (h : Nat) (hh : h < 3) (s : Int32) (hQ : Q (some (.int (seenF (mi 22 h) s))) (mi, ml, R0 rd, 136)) :
    Go Cl mc 1 nmax Q m_X0_seenFrom 0 (pad 3 (en0 [.ref 20, .int (nI h), .int s])) [] (mi, ml, R0 rd, 136) := by
  refine go hC rfl rfl 100 (fun K Kl hK hKl => ?_)
  refine ⟨h, hh, rfl, ?_⟩
  refine ⟨fun h1 => ?_, fun h1 => ?_⟩
  · refine ⟨h, hh, rfl, ?_⟩
    refine ⟨fun h2 => ?_, fun h2 => ?_⟩
    · have e : seenF (mi 22 h) s = s := by unfold seenF; rw [if_neg h1, if_neg h2]
      rw [e] at hQ
      exact hQ
    · have h2 : mi 22 h = nI 36 := Classical.not_not.mp h2
      have e : seenF (mi 22 h) s = s &&& ((s <<< 3) ^^^ -1) := by unfold seenF; rw [if_neg h1, if_pos h2]
      rw [e] at hQ
      exact hQ
  · have h1 : mi 22 h = nI 35 := Classical.not_not.mp h1
    have e : seenF (mi 22 h) s = s &&& ((s >>> 3) ^^^ -1) := by unfold seenF; rw [if_pos h1]
    rw [e] at hQ
    exact hQ
