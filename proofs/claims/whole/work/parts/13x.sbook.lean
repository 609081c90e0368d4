theorem mkR_at (f : Nat → Int32) (t : Nat) : (mkR f t).2.1 ≤ 100 := by
  have k1 : mkC1 f ≤ 4 := cntF_le _ _ _
  have k2 : mkC2 f ≤ 4 := cntF_le _ _ _
  have k3 : ∀ s, mkE f s ≤ s + 3 := fun s => by
    have := cntF_le (isl f) 3 s
    unfold mkE; omega
  have a1 := k3 (mkC1 f + 1 + mkC2 f)
  have a2 := k3 (mkC1 f)
  unfold mkR
  by_cases c1 : mkC1 f = 0
  · rw [if_pos c1]; exact Nat.zero_le _
  · rw [if_neg c1]
    by_cases c2 : f (mkC1 f) = 46
    · rw [if_pos c2]
      by_cases c3 : mkC2 f = 0
      · rw [if_pos c3]; show mkC1 f + 1 ≤ 100; omega
      · rw [if_neg c3]
        by_cases c4 : t ≤ mkE f (mkC1 f + 1 + mkC2 f)
        · rw [if_pos c4]; exact Nat.zero_le _
        · rw [if_neg c4]; show mkE f (mkC1 f + 1 + mkC2 f) ≤ 100; omega
    · rw [if_neg c2]
      by_cases c4 : t ≤ mkE f (mkC1 f)
      · rw [if_pos c4]; exact Nat.zero_le _
      · rw [if_neg c4]; show mkE f (mkC1 f) ≤ 100; omega
theorem byF_cong {f g : Nat → Int32} {t : Nat} (h : ∀ i, i < t → f i = g i) : byF f t = byF g t := by
  funext p; unfold byF
  by_cases c : p < t
  · rw [if_pos c, if_pos c]; exact h p c
  · rw [if_neg c, if_neg c]
theorem upd_ne (f : Nat → Int32) {n b : Nat} (v : Int32) (h : b ≠ n) : upd f n v b = f b := if_neg h
theorem book_m {n t : Nat} {a b c : Int32} {K : Int32 → ST → Prop} {y : ST} {f : Nat → Int32} (hf : f = byF (y.2.1 46) t) (ht : t ≤ 20) (hn : n ≤ 60) (hy22 : y.1 22 = nI n) (hy27 : y.1 27 = nI t)
    (h0 : ¬ (inn a 0 4 ∧ inn b 1 200 ∧ inn c 1 100 ∧ n < 60) → K (-1) y)
    (h1 : (inn a 0 4 ∧ inn b 1 200 ∧ inn c 1 100 ∧ n < 60) → (mkR f t).1 = false → ∀ nu bh di le : Nat → Int32, (∀ b, b ≠ n → nu b = y.2.1 36 b ∧ bh b = y.2.1 37 b ∧ di b = y.2.1 38 b ∧ le b = y.2.1 39 b) → K (-1) (pI (pI (NMS y (nI (mkR f t).2.1) nu bh di le) 28 (nI (mkR f t).2.1)) 27 0))
    (h2 : (inn a 0 4 ∧ inn b 1 200 ∧ inn c 1 100 ∧ n < 60) → (mkR f t).1 = true → ∀ N L B d, (mkR f t).2.2 = (N, L, B, d) → ∀ at_ (nu bh di le : Nat → Int32), (∀ b, b ≠ n → nu b = y.2.1 36 b ∧ bh b = y.2.1 37 b ∧ di b = y.2.1 38 b ∧ le b = y.2.1 39 b) → nu n = nI N → le n = nI L → di n = nI d → ((d = 0 ∧ B = 0 ∧ bh n = -1) ∨ (1 ≤ d ∧ bh n = nI B)) →
      K (nI n) (va_up (va_up (va_up (NMS y at_ nu bh di le).1 28 (-1)) 27 0) 22 (nI (n + 1)), va_up (va_up (va_up (NMS y at_ nu bh di le).2.1 40 (upd (y.2.1 40) n a)) 41 (upd (y.2.1 41) n b)) 42 (upd (y.2.1 42) n c), y.2.2)) : wX7_book a b c K y := by
  unfold wX7_book
  rw [isIn_iff]
  rcases wi_in (a := a) (lo := 0) (hi := 4) with ⟨e1, z1⟩ | ⟨e1, z1⟩ <;> rw [e1]
  · refine brF n10 ?_
    rw [isIn_iff]
    rcases wi_in (a := b) (lo := 1) (hi := 200) with ⟨e2, z2⟩ | ⟨e2, z2⟩ <;> rw [e2]
    · refine brF n10 ?_
      rw [isIn_iff]
      rcases wi_in (a := c) (lo := 1) (hi := 100) with ⟨e3, z3⟩ | ⟨e3, z3⟩ <;> rw [e3]
      · refine brF n10 ?_
        rw [show gI y 22 = nI n from hy22, show (60 : Int32) = nI 60 from rfl, nI_eq (by omega) (by omega)]
        by_cases c1 : n = 60
        · exact rbT c1 (h0 (fun z => by omega))
        · have hn2 : n < 60 := by omega
          refine rbF c1 (mark_m hf ht hn2 hy27 (fun ok nu bh di le ag => brT rfl (fun y10 e10 y11 e11 => ?_)) (fun ok N L B d eq at_ nu bh di le ag q1 q2 q3 q4 => brF n10 (fun y12 e12 y13 e13 => ?_)))
          · rw [e11, e10]
            exact h1 ⟨z1, z2, z3, hn2⟩ ok nu bh di le ag
          · have f1 : gI y13 22 = nI n := by rw [e13, e12]; exact hy22
            rw [f1]
            refine ⟨vin (by omega) (by omega), fun y15 e15 => ?_⟩
            have f2 : gI y15 22 = nI n := by rw [e15]; exact f1
            rw [f2]
            refine ⟨vin (by omega) (by omega), fun y17 e17 => ?_⟩
            have f3 : gI y17 22 = nI n := by rw [e17]; exact f2
            rw [f3]
            refine ⟨vin (by omega) (by omega), fun y19 e19 y20 e20 => ?_⟩
            have f4 : gI y19 22 = nI n := by rw [e19]; exact f3
            rw [f4, nI_1] at e20
            have f5 : gI y20 22 - 1 = nI n := by
              rw [e20]
              show nI (n + 1) - 1 = nI n
              rw [nI_pred]
            rw [f5, e20, e19, pA_n _ _ (by omega), e17, pA_n _ _ (by omega), e15, pA_n _ _ (by omega), e13, e12]
            exact h2 ⟨z1, z2, z3, hn2⟩ ok N L B d eq at_ nu bh di le ag q1 q2 q3 q4
      · exact brT rfl (h0 (fun z => z3 z.2.2.1))
    · exact brT rfl (h0 (fun z => z2 z.2.1))
  · exact brT rfl (h0 (fun z => z1 z.1))
theorem s_book (a b c : Int32) : SIM (wX6_book a b c) (wX7_book a b c) := by
  intro x y Q hR h
  obtain ⟨n, r, ns, m, t, hRR⟩ := id hR
  obtain ⟨hB, hO, hQ, hU, hS, hW, hT, hP, hZ⟩ := id hRR
  obtain ⟨b1, b2, b3, b4⟩ := id hB
  obtain ⟨t1, t2, t3, t4, t5⟩ := id hT
  have hf : byF (x.2.1 2) t = byF (y.2.1 46) t := byF_cong t4
  have bad : ¬ (inn a 0 4 ∧ inn b 1 200 ∧ inn c 1 100 ∧ n < 60) → wX7_book a b c (fun v' y' => Q (-1) v' x y') y := fun z =>
    book_m hf t1 b1 b3 t3 (fun _ => h _ _ _ hR) (fun w => absurd w z) (fun w => absurd w z)
  unfold wX6_book
  rw [show gI x 10 = nI n from b2, show (60 : Int32) = nI 60 from rfl, nI_leI (by omega) (by omega)]
  by_cases c1 : 60 ≤ n
  · exact brT c1 (bad (fun z => by omega))
  · refine brF c1 ?_
    have hn : n < 60 := by omega
    rw [within_iff]
    rcases wi_in (a := a) (lo := 0) (hi := 4) with ⟨e1, z1⟩ | ⟨e1, z1⟩ <;> rw [e1]
    · refine brF n10 ?_
      rw [within_iff]
      rcases wi_in (a := b) (lo := 1) (hi := 200) with ⟨e2, z2⟩ | ⟨e2, z2⟩ <;> rw [e2]
      · refine brF n10 ?_
        rw [within_iff]
        rcases wi_in (a := c) (lo := 1) (hi := 100) with ⟨e3, z3⟩ | ⟨e3, z3⟩ <;> rw [e3]
        · refine rbF n10 ?_
          have hall : inn a 0 4 ∧ inn b 1 200 ∧ inn c 1 100 ∧ n < 60 := ⟨z1, z2, z3, hn⟩
          refine read_x t1 t2 (fun ok nu bh bd bl le x9 e9 => ?_) (fun ok N L B d eq hN hL hd hB2 x9 e9 => ?_)
          · subst e9
            have hat := mkR_at (byF (x.2.1 2) t) t
            refine rbF (fun z => absurd (nneg (g := (mkR (byF (x.2.1 2) t) t).2.1) (by omega)) (by rw [show nI (mkR (byF (x.2.1 2) t) t).2.1 = -1 from z]; decide)) ?_ |> fun w => ⟨fun z => w.2 z, fun z => w.1 z⟩
            refine book_m hf t1 b1 b3 t3 (fun z => absurd hall z) (fun _ _ nu' bh' di' le' ag => ?_) (fun _ ok2 => absurd (ok.symm.trans ok2) (by decide))
            refine h _ _ _ ⟨n, r, ns, m, 0, ⟨b1, b2, b3, fun q hq => ?_⟩, hO, hQ, hU, hS, hW, ⟨by omega, rfl, rfl, fun i hi => absurd hi (Nat.not_lt_zero i), rfl⟩, hP, hZ⟩
            obtain ⟨g1, g2, g3, g4, g5, g6, g7⟩ := b4 q hq
            obtain ⟨a1, a2, a3, a4⟩ := ag q (by omega)
            refine ⟨g1, g2, g3, ?_, g5, g6, ?_⟩
            · show x.2.1 14 q = nu' q / 1000
              rw [a1]; exact g4
            · show KeyOK (x.2.2 6 q) (x.2.2 7 q) (nu' q) (bh' q) (di' q) (le' q)
              rw [a1, a2, a3, a4]; exact g7
          · subst e9
            refine ⟨fun _ => ?_, fun z => absurd rfl z⟩
            unfold wX6_forgetWhatFollows
            intro x11 e11 x12 e12
            subst e11 e12
            have he : elev B d * 11 ^ (4 - d) < 50000 := by
              rcases Nat.eq_zero_or_pos d with z | z
              · subst z
                show 0 * 11 ^ (4 - 0) < 50000
                rw [Nat.zero_mul]; omega
              · exact (fk_bound z hd hB2).2.1
            refine add_x (n := n) (N := N) (L := L) (B := B) (d := d) (x := pI (pI (pI (NXS x (-1) (nI N) (nI B) (nI d) (nI (elev B d * 11 ^ (4 - d))) (nI L)) 3 0) 1 0) 2 0) hn b2 hO hQ hN hL hd hB2 he rfl rfl rfl rfl rfl (fun g0 g1 k0 k1 k0e k1e hg0 hg1 => ?_)
            have k0e : k0 = vp_updL (x.2.2 6) n (lN ((N * 50000 + elev B d * 11 ^ (4 - d)) * 19683 + L)) := k0e
            have k1e : k1 = vp_updL (x.2.2 7) n (lN ((N * 50000 + (B * 5 + d)) * 19683 + L)) := k1e
            refine book_m hf t1 b1 b3 t3 (fun z => absurd hall z) (fun _ ok2 => absurd (ok.symm.trans ok2) (by decide)) (fun _ _ N' L' B' d' eq' at_ nu bh di le ag q1 q2 q3 q4 => ?_)
            rw [eq] at eq'
            cases eq'
            obtain ⟨ah, ah1, ah2⟩ := wi_c (n := 4) (by omega) z1.1 z1.2
            refine h _ _ _ ⟨n + 1, r, ns, m, 0, ⟨hn, rfl, rfl, fun q hq => ?_⟩, ⟨hg0, hg1⟩, rfl, hU, hS, ⟨hW.1, hW.2.1, hW.2.2.1, fun j hj => ⟨(hW.2.2.2.1 j hj).1, ?_⟩, hW.2.2.2.2⟩, ⟨by omega, rfl, rfl, fun i hi => absurd hi (Nat.not_lt_zero i), rfl⟩, Or.inl rfl, Or.inl rfl⟩
            · by_cases c2 : q = n
              · subst c2
                refine ⟨?_, ?_, ?_, ?_, ?_, ?_, ?_⟩
                · show upd (x.2.1 11) q a q = upd (y.2.1 40) q a q
                  rw [upd_at, upd_at]
                · show upd (x.2.1 12) q b q = upd (y.2.1 41) q b q
                  rw [upd_at, upd_at]
                · show upd (x.2.1 13) q c q = upd (y.2.1 42) q c q
                  rw [upd_at, upd_at]
                · show upd (x.2.1 14) q (nI (N / 1000)) q = nu q / nI 1000
                  rw [upd_at, q1, nI_div (by omega) (by omega)]
                · refine ⟨ah, by omega, ?_⟩
                  show upd (x.2.1 11) q a q = _
                  rw [upd_at]; exact ah2
                · refine ⟨N / 1000, by omega, ?_⟩
                  show upd (x.2.1 14) q (nI (N / 1000)) q = _
                  rw [upd_at]
                · show KeyOK (k0 q) (k1 q) (nu q) (bh q) (di q) (le q)
                  rw [k0e, k1e, updL_at, updL_at, q1, q2, q3]
                  refine ⟨N, L, hN, hL, rfl, rfl, ?_⟩
                  rcases q4 with ⟨p1, p2, p3⟩ | ⟨p1, p2⟩
                  · subst p1 p2
                    refine Or.inl ⟨p3, rfl, ?_, ?_⟩
                    · rw [show elev 0 0 * 11 ^ (4 - 0) = 0 from rfl]
                    · rfl
                  · exact Or.inr ⟨B, d, p1, hd, hB2, p2, rfl, rfl, rfl⟩
              · obtain ⟨g1', g2, g3, g4, ⟨g5, g5a, g5b⟩, ⟨g6, g6a, g6b⟩, g7⟩ := b4 q (by omega)
                obtain ⟨a1, a2, a3, a4⟩ := ag q c2
                refine ⟨?_, ?_, ?_, ?_, ⟨g5, g5a, ?_⟩, ⟨g6, g6a, ?_⟩, ?_⟩
                · show upd (x.2.1 11) n a q = upd (y.2.1 40) n a q
                  rw [upd_ne _ _ c2, upd_ne _ _ c2]; exact g1'
                · show upd (x.2.1 12) n b q = upd (y.2.1 41) n b q
                  rw [upd_ne _ _ c2, upd_ne _ _ c2]; exact g2
                · show upd (x.2.1 13) n c q = upd (y.2.1 42) n c q
                  rw [upd_ne _ _ c2, upd_ne _ _ c2]; exact g3
                · show upd (x.2.1 14) n (nI (N / 1000)) q = nu q / 1000
                  rw [upd_ne _ _ c2, a1]; exact g4
                · show upd (x.2.1 11) n a q = _
                  rw [upd_ne _ _ c2]; exact g5b
                · show upd (x.2.1 14) n (nI (N / 1000)) q = _
                  rw [upd_ne _ _ c2]; exact g6b
                · show KeyOK (k0 q) (k1 q) (nu q) (bh q) (di q) (le q)
                  rw [k0e, k1e, updL_ne _ _ c2, updL_ne _ _ c2, a1, a2, a3, a4]; exact g7
            · obtain ⟨w, w1, w2⟩ := (hW.2.2.2.1 j hj).2
              exact ⟨w, by omega, w2⟩
        · exact rbT rfl (bad (fun z => z3 z.2.2.1))
      · exact brT rfl (bad (fun z => z2 z.2.1))
    · exact brT rfl (bad (fun z => z1 z.1))
