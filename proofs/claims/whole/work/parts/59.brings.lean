/-! pairs: brings, tabu -/
theorem at_same {c g : aH} (hs : sShop c g) (ho : sOrd c g) (hn : 0 < c 3 1) (hN : lnkN (cSz c) (cO c 19) (c 22) (c 23)) (hT : timesOK c) (hM : lnkN (g 91) (mO g) (g 97) (g 98)) (ht : rkT g) {a b : Int} (h0 : 0 ≤ a ∧ a < c 3 1) (h1 : 0 ≤ b ∧ b < c 3 1) : mLB g a b = lB (jA (c 5)) (jN (c 3 1) (c 4)) (c 22) (c 23) (c 7) (c 24) (c 25) a b := by
  have hlk := hs.lnk ho hN hM
  have hja := hs.ja
  have hts := times_same hs ho hn hN hT hM ht
  have h5 := hs.2.2.2.2.1
  have r := fun t (x : 0 ≤ t ∧ t < c 3 1) => hT.1.rng x.1 x.2
  have E : ∀ u, u < c 3 1 → eo (g 99) (g 89) u = eo (c 24) (c 7) u := by
    intro u hu
    by_cases z : u < 0
    · rw [eo_neg z, eo_neg z]
    · rw [eo_pos (by omega), eo_pos (by omega), (hts.2 u (by omega) hu).1, (h5 u (by omega) hu).2.2.2]
  have R : ∀ u, u < c 3 1 → ro (g 100) (g 89) u = ro (c 25) (c 7) u := by
    intro u hu
    by_cases z : u < 0
    · rw [ro_neg z, ro_neg z]
    · rw [ro_pos (by omega), ro_pos (by omega), (hts.2 u (by omega) hu).2, (h5 u (by omega) hu).2.2.2]
  unfold mLB lB
  rw [(hja a h0.1 h0.2).1, (hja b h1.1 h1.2).1, (hja a h0.1 h0.2).2, (hja b h1.1 h1.2).2, ← (hlk a h0.1 h0.2).1, ← (hlk b h1.1 h1.2).2, (h5 a h0.1 h0.2).2.2.2, (h5 b h1.1 h1.2).2.2.2]
  rw [E _ (r a h0).1, E _ (r b h1).1, E _ (r a h0).2.1, R _ (r a h0).2.2.1, R _ (r b h1).2.2.1, R _ (r b h1).2.2.2.1]
theorem lnkN.sz {sz sz' : Int → Int} {o : Int → Int → Int} {pa pn : Int → Int} (hz : ∀ M, 0 ≤ M → M < 5 → sz' M = sz M) (h : lnkN sz o pa pn) : lnkN sz' o pa pn := by
  intro m k a b c d
  rw [hz m a b] at d ⊢
  exact h m k a b c d
theorem noR.conv {n n' : Int} {ja ja' sz sz' : Int → Int} {o o' : Int → Int → Int} (h : noR n ja sz o) (hn : n' = n) (hs : sameO sz o o') (hz : ∀ M, 0 ≤ M → M < 5 → sz' M = sz M) (hj : ∀ t, 0 ≤ t → t < n → ja' t = ja t) : noR n' ja' sz' o' := by
  subst hn
  intro pa pn hl
  exact (h.same hs hj) pa pn (hl.sz (fun M a b => (hz M a b).symm))
theorem spanIs.sz {n : Int} {ja l sz sz' : Int → Int} {o : Int → Int → Int} {v : Int} (hz : ∀ M, 0 ≤ M → M < 5 → sz' M = sz M) (h : spanIs n ja l sz o v) : spanIs n ja l sz' o v := by
  obtain ⟨pa, pn, S, a, b⟩ := h
  exact ⟨pa, pn, S, a.sz hz, b⟩
theorem isIx.eps {L : List Int} {v r : Int} (h : isIx L v r) : Classical.epsilon (isIx L v) = r := (Classical.epsilon_spec ⟨r, h⟩ : isIx L v _).unique h
/-- what the i-th move brings; where it is kept -/
noncomputable def vB (c : aH) (i : Int) : Int := Classical.epsilon (spanIs (c 3 1) (jA (c 5)) (c 7) (cSz c) (swO (cO c 19) (c 6 (c 39 (c 41 i))) (c 21 (c 39 (c 41 i)))))
noncomputable def qB (L : List Int) (c : aH) (i : Int) : Int := Classical.epsilon (isIx L (100 * c 39 (c 41 i) + c 39 (c 41 i + 1)))
theorem mv_of {c : aH} (hn : 0 < c 3 1) (S : Settled c) (hr : c 20 10 = 0) {i : Int} (i0 : 0 ≤ i) (i1 : i < c 38 5) : mvOK (c 6) (c 4) (c 39) (c 38 1) (c 41 i) := mvF_mem (S.paths hr).2.2.1 (List.mem_of_getElem? ((S.paths hr).2.2.2.get i0 i1))
theorem jA_lt {c : aH} (hs : cShop c) : ∀ t, 0 ≤ t → t < c 3 1 → jA (c 5) t < c 3 1 := fun t a b => by
  have := (hs.1.dual t a b).1
  omega
theorem r_cB {c : aH} {Q : aQ} {i : Int} (hs : cShop c) (hn : 0 < c 3 1) (ho : okOrd (c 3 1) (c 6) (cSz c) (cO c 19)) (S : Settled c) (hr : c 20 10 = 0) (i0 : 0 ≤ i) (i1 : i < c 38 5) (k : ∀ g', (∀ x, (x < 29 ∨ 37 < x) → g' x = c x) → 0 ≤ vB c i ∧ vB c i ≤ 2376 → Q (vB c i) g') : aRun mX9_spanBehind 3 [aR 0, aI i] c Q := by
  have P := S.paths hr
  have mo := mv_of hn S hr i0 i1
  have mr := mv_rng hs hn P.2 mo
  have cn := P.2.cnt hs
  obtain ⟨M, kk, hM, hk, m1, m2, m3, m4, m5⟩ := mv_place hs hn ho S hr mo
  refine r_cBehind hs ho S.1 (by omega) (by omega) hM hk m2 m5 (fun g v f vr sp => ?_)
  have e : vB c i = v := by
    unfold vB
    rw [m1, m4]
    have hsp := Classical.epsilon_spec (p := spanIs (c 3 1) (jA (c 5)) (c 7) (cSz c) (swO (cO c 19) M kk)) ⟨v, sp⟩
    exact spanIs.unique hn (ho.swap hM hk) hs.mach (fun _ _ _ _ _ _ => rfl) (fun t a b => ⟨jA_lt hs t a b, rfl, rfl⟩) hsp sp
  have := k g f
  rw [e] at this
  exact this vr
theorem r_mB {c g : aH} {Q : aQ} {i : Int} (H : sS c g) (hn : 0 < c 3 1) (S : Settled c) (hr : c 20 10 = 0) (i0 : 0 ≤ i) (i1 : i < c 38 5) (hg : g 105 i = 100 * c 39 (c 41 i) + c 39 (c 41 i + 1)) (k : ∀ g', rkF g g' → Q (vB c i) g') : aRun mX10_spanBehind 4 [aR 85, aI (g 105 i)] g Q := by
  have hs := H.1.1
  have ho := H.2.1.1
  have P := S.paths hr
  have mo := mv_of hn S hr i0 i1
  have mr := mv_rng hs hn P.2 mo
  obtain ⟨M, kk, hM, hk, m1, m2, m3, m4, m5⟩ := mv_place hs hn ho S hr mo
  have z : ∀ M, 0 ≤ M → M < 5 → g 91 M = cSz c M := H.1.2.2.2.2.2
  have o1 : mO g M kk = c 39 (c 41 i) := (H.2.1.2 M kk hM.1 hM.2 hk.1 (by omega)).symm.trans m2
  have o2 : mO g M (kk + 1) = c 39 (c 41 i + 1) := (H.2.1.2 M (kk + 1) hM.1 hM.2 (by omega) (by omega)).symm.trans m3
  have en : g 85 1 = c 3 1 := H.1.2.2.2.1
  have hja := H.1.ja
  rw [hg]
  have hzM := z M hM.1 hM.2
  refine r_mBehind H.1.2.1 (H.1.mOrd H.2.1) hM (by omega) o1.symm o2.symm (m5.conv en (H.2.1.2.swap hM hk) z (fun t a b => (hja t a b).1)) (fun g' v F vr sp => ?_)
  have e : vB c i = v := by
    unfold vB
    rw [m1, m4]
    rw [en] at sp
    have sp := sp.sz (sz' := cSz c) (fun M a b => (z M a b).symm)
    have ex : ∃ v, spanIs (c 3 1) (jA (c 5)) (c 7) (cSz c) (swO (cO c 19) M kk) v := by
      obtain ⟨pa, pn, S', a1, a2, a3, a4⟩ := sp
      refine ⟨v, pa, pn, S', a1.of (H.2.1.2.swap hM hk).symm, acyc_congr (fun t x y => ⟨((hja t x y).1).symm, rfl⟩) a2, fun t x y => ?_, fun t x y => ?_, fun x => ?_⟩
      · have q := a3 t x y
        rw [(hja t x y).1] at q
        rw [q]
        have el : ∀ u, u < c 3 1 → eo S' (g 89) u = eo S' (c 7) u := fun u hu => by
          by_cases z : u < 0
          · rw [eo_neg z, eo_neg z]
          · rw [eo_pos (by omega), eo_pos (by omega), (H.1.2.2.2.2.1 u (by omega) hu).2.2.2]
        rw [el _ (jA_lt hs t x y)]
        congr 1
        refine el _ ?_
        have hd := (ho.swap hM hk).dual hs.mach (a1.of (H.2.1.2.swap hM hk).symm)
        have := (hd t x y).1
        omega
      · have q := a4.1 t x y
        rw [(H.1.2.2.2.2.1 t x y).2.2.2] at q
        exact q
      · obtain ⟨t, y, w, q⟩ := a4.2 x
        rw [(H.1.2.2.2.2.1 t y w).2.2.2] at q
        exact ⟨t, y, w, q⟩
    have hsp := Classical.epsilon_spec (p := spanIs (c 3 1) (jA (c 5)) (c 7) (cSz c) (swO (cO c 19) M kk)) ex
    exact spanIs.unique hn (ho.swap hM hk) hs.mach (H.2.1.2.swap hM hk) (fun t a b => ⟨jA_lt hs t a b, (hja t a b).1, (H.1.2.2.2.2.1 t a b).2.2.2⟩) hsp sp
  have := k g' F
  rw [e] at this
  exact this
theorem r_cK {c : aH} {Q : aQ} {L : List Int} {i : Int} (hs : cShop c) (hn : 0 < c 3 1) (S : Settled c) (hr : c 20 10 = 0) (i0 : 0 ≤ i) (i1 : i < c 38 5) (hL : okMv L (c 43) (c 42 1)) (h9 : c 42 1 ≤ 9) (k : -1 ≤ qB L c i ∧ qB L c i < 9 → Q (qB L c i) c) : aRun mX9_keptSince 1 [aR 0, aI i] c Q := by
  have P := S.paths hr
  have mo := mv_of hn S hr i0 i1
  have mr := mv_rng hs hn P.2 mo
  have cn := P.2.cnt hs
  have hn2 := hs.1.1
  refine e_X9_keptSince ⟨?_, ?_, ?_, ?_⟩
  · unfold o_X6_first; omega
  · unfold o_X6_second inR; omega
  · unfold o_X9_pair f_X6_first f_X6_second inR; omega
  · refine r_fFind hL h9 (fun r hr => ?_)
    have e : qB L c i = r := hr.eps
    rw [e] at k
    refine k ?_
    rcases hr with ⟨x, -⟩ | ⟨j, x, y, -⟩
    · omega
    · have := (List.getElem?_eq_some_iff.mp y).1
      have := hL.1
      omega
theorem r_mK {c g : aH} {Q : aQ} {L : List Int} {i : Int} (hL : okMv L (g 107) (g 85 36)) (h9 : g 85 36 ≤ 10) (hg : g 105 i = 100 * c 39 (c 41 i) + c 39 (c 41 i + 1)) (k : Q (qB L c i) g) : aRun mX10_tabuAt 0 [aR 85, aI (g 105 i)] g Q := by
  rw [hg]
  refine r_tabuAt hL h9 (fun r hr => ?_)
  have e : qB L c i = r := hr.eps
  rw [e] at k
  exact k
theorem f_cEnd {h : aH} {u : Int} (hu : u = -1 ∨ 0 ≤ u) : f_X8_endOf h u = eo (h 24) (h 7) u := by
  unfold f_X8_endOf eo
  by_cases z : u = -1
  · rw [if_pos z, if_pos (by omega)]
  · rw [if_neg z, if_neg (by omega)]
theorem timesOK.eoB {c : aH} (hT : timesOK c) {u : Int} (hu : u < c 3 1) : 0 ≤ eo (c 24) (c 7) u ∧ eo (c 24) (c 7) u ≤ 2475 := by
  by_cases z : u < 0
  · rw [eo_neg z]; omega
  · rw [eo_pos (by omega)]
    have := (hT.2.2 u (by omega) hu).2.1
    have := hT.1.2.2.2.2.2.2 u (by omega) hu
    omega
theorem timesOK.roB {c : aH} (hT : timesOK c) {u : Int} (hu : u < c 3 1) : 0 ≤ ro (c 25) (c 7) u ∧ ro (c 25) (c 7) u ≤ 2475 := by
  by_cases z : u < 0
  · rw [ro_neg z]; omega
  · rw [ro_pos (by omega)]
    have := (hT.2.2 u (by omega) hu).2.2
    have := hT.1.2.2.2.2.2.2 u (by omega) hu
    omega
theorem o_cEnd {h : aH} {u : Int} (hu : u = -1 ∨ (0 ≤ u ∧ u < 24)) (hb : 0 ≤ u → inR (h 24 u + h 7 u)) : o_X8_endOf h u := fun z => ⟨by omega, hb (by omega)⟩
theorem r_cAt {c : aH} (hs : cShop c) (hT : timesOK c) {a b : Int} (h0 : 0 ≤ a ∧ a < c 3 1) (h1 : 0 ≤ b ∧ b < c 3 1) : o_X8_atLeast c a b ∧ f_X8_atLeast c a b = lB (jA (c 5)) (jN (c 3 1) (c 4)) (c 22) (c 23) (c 7) (c 24) (c 25) a b := by
  have r := fun t (x : 0 ≤ t ∧ t < c 3 1) => hT.1.rng x.1 x.2
  have hn := hs.1.1
  have ra := r a h0
  have rb := r b h1
  have la := hT.1.2.2.2.2.2.2 a h0.1 h0.2
  have lb := hT.1.2.2.2.2.2.2 b h1.1 h1.2
  have b1 := hT.eoB ra.1
  have b2 := hT.eoB rb.1
  have b3 := hT.eoB ra.2.1
  have b4 := hT.roB ra.2.2.1
  have b5 := hT.roB rb.2.2.1
  have b6 := hT.roB rb.2.2.2.1
  have oe : ∀ u, -1 ≤ u → u < c 3 1 → o_X8_endOf c u := fun u x y => o_cEnd (by omega) (fun z => by
    have := hT.eoB y
    rw [eo_pos z] at this
    unfold inR
    omega)
  have ot : ∀ u, -1 ≤ u → u < c 3 1 → o_X8_toCome c u := fun u x y => o_toCome (by omega) (fun z => by
    have := hT.roB y
    rw [ro_pos z] at this
    unfold inR
    omega)
  have e1 : f_X8_endOf c (f_X5_jobAhead c 3 b) = eo (c 24) (c 7) (jA (c 5) b) := f_cEnd (by have := rb; rw [f_JA]; omega)
  have e2 : f_X8_endOf c (f_X5_jobAhead c 3 a) = eo (c 24) (c 7) (jA (c 5) a) := f_cEnd (by have := ra; rw [f_JA]; omega)
  have e3 : f_X8_endOf c (c 22 a) = eo (c 24) (c 7) (c 22 a) := f_cEnd (by omega)
  have e4 : f_X8_toCome c (f_X5_jobNext c 3 a) = ro (c 25) (c 7) (jN (c 3 1) (c 4) a) := f_toCome (by rw [f_JN]; omega)
  have e5 : f_X8_toCome c (f_X5_jobNext c 3 b) = ro (c 25) (c 7) (jN (c 3 1) (c 4) b) := f_toCome (by rw [f_JN]; omega)
  have e6 : f_X8_toCome c (c 23 b) = ro (c 25) (c 7) (c 23 b) := f_toCome (by omega)
  refine ⟨?_, ?_⟩
  · unfold o_X8_atLeast
    rw [e1, e2, e3, e4, e5, e6]
    unfold inR
    refine ⟨o_JA h1.1 (by omega), oe _ (by rw [f_JA]; omega) (by rw [f_JA]; omega), by omega, oe _ (by omega) (by omega), by omega, by omega, o_JA h0.1 (by omega), oe _ (by rw [f_JA]; omega) (by rw [f_JA]; omega), o_JN h0.1 (by omega) (by omega), ot _ (by rw [f_JN]; omega) (by rw [f_JN]; omega), ot _ (by omega) (by omega), o_JN h1.1 (by omega) (by omega), ot _ (by rw [f_JN]; omega) (by rw [f_JN]; omega), by omega, by omega, by omega, by omega⟩
  · unfold f_X8_atLeast
    rw [e1, e2, e3, e4, e5, e6]
    unfold lB
    omega
theorem pr_brings : a_pair Inv mX9_brings mX10_brings 4 6 2 := by
  intro n h a b hn hI hh ha hb
  have hs := hI.1.2.1.1
  have ho := hI.1.2.1.2.1
  have h1 := hs.2.2.2.1
  have h0 := hs.1.1.1
  have hSt := hI.1.2.2.1
  obtain ⟨L, t1, t2, t3, t4, t5, t6⟩ := hI.1.2.2.2.1
  have hin : ∀ g : aH, f_X10_in g b 0 2 = 0 ↔ ¬ (0 ≤ b ∧ b ≤ 2) := fun g => f_in_0
  have ok : (-1 : Int) = -1 ∧ Inv (n + 1) h := ⟨rfl, hI.mono⟩
  refine e_X9_brings ⟨fun z => ?_, fun z => ⟨fun y => ?_, fun y => ⟨fun x => ⟨fun hr => ⟨fun w => ?_, fun w => ?_⟩, fun hr => ?_⟩, fun x => ?_⟩⟩⟩
  · exact e_X10_brings ⟨fun _ => ok, fun v => absurd z v⟩
  · exact e_X10_brings ⟨fun _ => ok, fun _ => ⟨fun _ => ok, fun v => absurd ((hin h).2 (by omega)) v⟩⟩
  · obtain ⟨q1, q2⟩ := refused_ok h0.1 hr
    have S := hSt q1
    have P := S.paths q2
    have hL := P.2.cnt hs.1
    have mo := mv_of q1 S q2 (show 0 ≤ a by omega) w
    have mr := mv_rng hs.1 q1 P.2 mo
    have at1 := r_cAt hs.1 P.1 mr.2.1 mr.2.2
    -- the reference, on a heap g that differs from h in scratch of the class alone
    have main : ∀ (g : aH) (ans : Int), (∀ x, (x < 29 ∨ 37 < x) → g x = h x) → (b = 0 → ans = f_X8_atLeast h (f_X6_first h a) (f_X6_second h a)) → (b = 1 → ans = vB h a) → (b = 2 → ans = if qB L h a = -1 then 0 else 1) → aRun mX10_brings 6 [aR 85, aI a, aI b] g (fun r' h2 => ans = r' ∧ Inv (n + 1) h2) := by
      intro g ans hg c0 c1 c2
      have e85 : ∀ k, 85 ≤ k → g k = h k := fun k hk => hg k (by omega)
      have hSg := hI.1.2.1.hi e85
      have fr : cK h g := fun k k1 k2 k3 k4 k5 => hg k k2
      have fr2 : mK h g := ⟨fun k k1 _ _ _ => e85 k (by omega), fun i _ => congrFun (e85 85 (by omega)) i⟩
      refine e_X10_brings ⟨fun v => absurd v z, fun _ => ⟨fun v => absurd (show 0 ≤ b ∧ b ≤ 2 by omega) ((hin g).1 v), fun _ => ?_⟩⟩
      refine r_wrongS hSg.1 hSg.2.1 hSt (fun n' e => by omega) (fun g' n' hF _ _ r' e => by omega) (fun g3 n' hF hs' ho' hN hr3 hT e => ⟨fun _ => ?_, fun w => by omega⟩)
      refine r_findsS hs' ho' n' S.2.1 P.1 P.2 hN hT (fun g4 f1 f2 w1 w2 e33 hmv => ⟨fun _ => ?_, fun v => by omega⟩)
      have m1 := hmv a (by omega) w
      have fr3 : cK h g4 := cK.trans fr (cK.trans (cK.rk hF) (fun k k1 k2 k3 k4 k5 => f1 k (by omega) (by omega)))
      have fr4 : mK h g4 := mK.trans fr2 (mK.trans (mK.rk hF) ⟨fun k k1 k2 k3 k4 => f1 k (by omega) (by omega), fun i hi => f2 i (by omega) (by omega) (by omega)⟩)
      refine ⟨fun u => ⟨by omega, ?_, hI.frame fr3 fr4⟩, fun u0 => ⟨fun u => ⟨by omega, ?_⟩, fun u1 => ⟨by omega, ?_⟩⟩⟩
      · rw [c0 u, m1.2.2]
        refine at1.2.trans ?_
        exact (at_same hs' ho' n' S.2.1 P.1 hN hT mr.2.1 mr.2.2).symm
      · have hS4 : sS h g4 := hI.1.2.1.congr (fun _ _ _ => rfl) rfl (fr4.2 0 (by omega)) (fr4.2 1 (by omega)) (fun k k1 k2 => fr4.1 k (by omega) (by omega) (by omega) (by omega))
        refine r_mB hS4 q1 S q2 (by omega) w m1.2.1 (fun g' F => ⟨c1 u, ?_⟩)
        exact hI.frame (cK.trans fr3 (cK.rk F)) (mK.trans fr4 (mK.rk F))
      · refine r_mK (c := h) (L := L) ?_ ?_ m1.2.1 ⟨?_, hI.frame fr3 fr4⟩
        · rw [fr4.2 36 (by omega), fr4.1 107 (by omega) (by omega) (by omega) (by omega)]; exact t2
        · rw [fr4.2 36 (by omega)]
          have := t1.1
          have := t2.1
          omega
        · have := c2 (by omega)
          rw [this]
          have r0 : -1 ≤ qB L h a := by
            have ex : ∃ r, isIx L (100 * h 39 (h 41 a) + h 39 (h 41 a + 1)) r := by
              refine Classical.byContradiction (fun N => ?_)
              have n1 : ∀ i : Nat, L[i]? ≠ some (100 * h 39 (h 41 a) + h 39 (h 41 a + 1)) := by
                intro i
                induction i using Nat.strongRecOn with
                | _ i ih => exact fun e => N ⟨i, Or.inr ⟨i, rfl, e, ih⟩⟩
              exact N ⟨-1, Or.inl ⟨rfl, n1⟩⟩
            have hsp : isIx L _ (qB L h a) := Classical.epsilon_spec ex
            rcases hsp with ⟨x, -⟩ | ⟨j, x, -⟩
            · omega
            · omega
          by_cases e : qB L h a = -1
          · rw [if_pos e, if_neg (by omega)]
          · rw [if_neg e, if_pos (by omega)]
    refine ⟨fun u => ⟨?_, ?_, at1.1, ?_⟩, fun u0 => ⟨fun u => ?_, fun u1 => ?_⟩⟩
    · unfold o_X6_first; omega
    · unfold o_X6_second inR; omega
    · exact main h _ (fun _ _ => rfl) (fun _ => rfl) (fun v => by omega) (fun v => by omega)
    · refine r_cB hs.1 q1 ho.1 S q2 (by omega) w (fun g' f vr => ?_)
      exact main g' _ f (fun v => by omega) (fun _ => rfl) (fun v => by omega)
    · refine r_cK hs.1 q1 S q2 (by omega) w t1 (by omega) (fun vr => ?_)
      exact main h _ (fun _ _ => rfl) (fun v => by omega) (fun v => by omega) (fun _ => rfl)
  · obtain ⟨q1, q2⟩ := refused_ok h0.1 hr
    have S := hSt q1
    have P := S.paths q2
    refine e_X10_brings ⟨fun v => absurd v z, fun _ => ⟨fun v => absurd (show 0 ≤ b ∧ b ≤ 2 by omega) ((hin h).1 v), fun _ => ?_⟩⟩
    refine r_wrongS hs ho hSt (fun n' e => by omega) (fun g' n' hF _ _ r' e => by omega) (fun g3 n' hF hs' ho' hN hr3 hT e => ⟨fun _ => ?_, fun w => by omega⟩)
    refine r_findsS hs' ho' n' S.2.1 P.1 P.2 hN hT (fun g4 f1 f2 w1 w2 e33 hmv => ⟨fun v => by omega, fun v => ⟨rfl, ?_⟩⟩)
    exact hI.frame (cK.trans (cK.rk hF) (fun k k1 k2 k3 k4 k5 => f1 k (by omega) (by omega))) (mK.trans (mK.rk hF) ⟨fun k k1 k2 k3 k4 => f1 k (by omega) (by omega), fun i hi => f2 i (by omega) (by omega) (by omega)⟩)
  · refine e_X10_brings ⟨fun v => absurd v z, fun _ => ⟨fun v => absurd (show 0 ≤ b ∧ b ≤ 2 by omega) ((hin h).1 v), fun _ => ?_⟩⟩
    refine r_wrongS hs ho hSt (fun n' e => ⟨fun w => by omega, fun _ => ⟨e, hI.mono⟩⟩) (fun g' n' hF _ _ r' e => ⟨fun w => by omega, fun _ => ⟨e, hI.frame (cK.rk hF) (mK.rk hF)⟩⟩) (fun g3 n' hF hs' ho' hN hr3 hT e => absurd e hr)
  · exact e_X10_brings ⟨fun v => absurd v z, fun _ => ⟨fun _ => ok, fun v => absurd ((hin h).2 (by omega)) v⟩⟩
