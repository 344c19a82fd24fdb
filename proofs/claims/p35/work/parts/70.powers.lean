set_option maxRecDepth 16384
def pwF (J : aJ) (v : Nat) : Nat → Nat → aP
  | 0, _ => ao J
  | f + 1, n => if n = 0 then ao J else if n = 1 then ae J v else if n % 2 = 0 then aj J (pwF J v f (n / 2)) (pwF J v f (n / 2)) else aj J (aj J (pwF J v f (n / 2)) (pwF J v f (n / 2))) (ae J v)
theorem pwF_f (J : aJ) (v : Nat) : ∀ f n, n < 2 ^ f → ∀ g, f ≤ g → pwF J v g n = pwF J v f n := by
  intro f
  induction f with
  | zero =>
    intro n h g hg
    have h0 : n = 0 := by rw [Nat.pow_zero] at h; omega
    subst h0
    cases g with
    | zero => rfl
    | succ g => rfl
  | succ f ih =>
    intro n h g hg
    cases g with
    | zero => omega
    | succ g =>
      have e := ih (n / 2) (by rw [Nat.pow_succ] at h; omega) g (by omega)
      simp only [pwF, e]
theorem pwF_V {J : aJ} (hW : jW J) {v : Nat} (hv : v < 10000) : ∀ f n, aV J (pwF J v f n) := by
  intro f
  induction f with
  | zero => intro n; exact ao_V hW
  | succ f ih =>
    intro n
    have h2 := aj_V hW (ih (n / 2)) (ih (n / 2))
    rw [pwF]
    by_cases c0 : n = 0
    · rw [if_pos c0]; exact ao_V hW
    · rw [if_neg c0]
      by_cases c1 : n = 1
      · rw [if_pos c1]; exact ae_V hW hv
      · rw [if_neg c1]
        by_cases c2 : n % 2 = 0
        · rw [if_pos c2]; exact h2
        · rw [if_neg c2]; exact aj_V hW h2 (ae_V hW hv)
def pwP (J : aJ) (v n : Nat) : aP := pwF J v 31 n
def pwD (J : aJ) (v n : Nat) : aP := if n % 2 = 0 then pwP J v n else aj J (pwP J v (n / 2)) (pwP J v (n / 2))
theorem pwD_e {J : aJ} {v n : Nat} (h1 : 1 < n) (h2 : n < 2 ^ 30) : pwD J v n = aj J (pwP J v (n / 2)) (pwP J v (n / 2)) := by
  unfold pwD
  by_cases c : n % 2 = 0
  · have e := pwF_f J v 30 (n / 2) (by omega) 31 (by decide)
    rw [if_pos c]
    unfold pwP
    rw [e, pwF, if_neg (by omega), if_neg (by omega), if_pos c]
  · rw [if_neg c]
theorem pwP_e {J : aJ} {v n : Nat} (h1 : 1 < n) (h2 : n < 2 ^ 30) (h3 : n % 2 = 1) : pwP J v n = aj J (pwD J v n) (ae J v) := by
  rw [pwD_e h1 h2]
  have e := pwF_f J v 30 (n / 2) (by omega) 31 (by decide)
  unfold pwP
  rw [e, pwF, if_neg (by omega), if_neg (by omega), if_neg (by omega)]
theorem pwP_V {J : aJ} (hW : jW J) {v : Nat} (hv : v < 10000) (n : Nat) : aV J (pwP J v n) := pwF_V hW hv 31 n
theorem pwD_V {J : aJ} (hW : jW J) {v : Nat} (hv : v < 10000) (n : Nat) : aV J (pwD J v n) := by
  unfold pwD
  by_cases c : n % 2 = 0
  · rw [if_pos c]; exact pwP_V hW hv n
  · rw [if_neg c]; exact aj_V hW (pwP_V hW hv _) (pwP_V hW hv _)
theorem pw_c {J : aJ} {w0 : zW} (hW : jW J) (hc : cJ J w0) {v : Nat} (hv : v < 10000) {N : Nat} (hN : N < 2 ^ 30) : ∃ w', Qc w0 w' ∧ fX0_power (nI v) (nI N) w0 = some (nI (cn N), w') := by
  have hN0 : N / 2 ^ 31 = 0 := Nat.div_eq_of_lt (by omega)
  obtain ⟨w', k1, -, -, e⟩ := pg7 (w0 := w0) (v := nI v) (P := pwP J v) (D := pwD J v) (fun w q => c_start hW (cJ_Q hc q) hv) (fun w n q n1 n2 => by rw [pwD_e n1 n2]; exact c_join hW (cJ_Q hc q) (pwP_V hW hv _) (pwP_V hW hv _)) (fun w n q n1 n2 n3 hp hq => by
    rw [pwP_e n1 n2 n3, c_follow hW (cJ_Q hc q) hv (by rw [hp, hq]; exact pwD_V hW hv n), hp, hq]; rfl) (fun n hn => by unfold pwD; rw [if_pos hn]) hN zFU 31 (setC w0 (opF (jK J) (jE J)) (oqF (jK J))) (by decide) (by unfold zFU; omega) (qc_C (qc_0 w0)) (by rw [hN0]; rfl) (by rw [hN0]; rfl)
  rw [hN0, cn_0 (Nat.zero_le 1), show nI 31 - 1 = (30 : Int32) by decide] at e
  exact ⟨w', k1, by rw [fX0_power, c_empty hW hc, bd_s]; exact e⟩
section BP
variable {J : aJ} {S : aS} {T : aT} {w w1 w2 : zW}
theorem powers_b (h : rW J S T w) (a b : Int32) : Bq (fX7_powers a b) (fX8_powers a b) Eq w := by
  obtain ⟨hW, hS, hT, ⟨H0, hC0⟩, -⟩ := id h
  have hc := hC0.1
  rcases im a with ⟨i7, i8⟩ | ⟨v, hv, rfl, i7, i8⟩
  · exact bq_x h (-1) (fun H hC => by rw [fX7_powers, i7, bd_s, ff]) (fun w1 H hD => by rw [fX8_powers, lt_e, i8, bd_s, ff])
  rcases inb b (lo := 0) (hi := 1000000000) (by decide) (by decide) with ⟨h1, h2⟩ | ⟨h1, h1', h2⟩
  · have h3 : ∀ w, fX8_in b.toInt64 0 1000000000 w = some (false, w) := h2
    refine bq_x h (-1) (fun H hC => ?_) (fun w1 H hD => by rw [fX8_powers, lt_e, i8, bd_s, tt, h3, bd_s, ff])
    rw [fX7_powers, i7, bd_s, tt]
    rcases h1 with z | z
    · rw [if_pos (show b < 0 from z)]
    · by_cases c : b < 0
      · rw [if_pos c]
      · rw [if_neg c, if_neg (show ¬ b ≤ 1000000000 from Int32.not_le.mpr z)]
  have h3 : ∀ w, fX8_in b.toInt64 0 1000000000 w = some (true, w) := h2
  obtain ⟨N, hN, rfl⟩ : ∃ n, n ≤ 1000000000 ∧ b = nI n := by
    rcases i01 (n := 1000000000) (by decide) h1' with q | q
    · exact absurd q h1
    · exact q
  refine bh (· = nI (cn N)) (· = nI (cn N)) (fun x y a b => a.trans b.symm) h ?_ (fun w1 h1 => ?_)
  · obtain ⟨w', hQ, e⟩ := pw_c hW hc hv (show N < 2 ^ 30 by omega)
    rw [fX7_powers, i7, bd_s, tt, if_neg (show ¬ nI N < 0 from h1), if_pos (show nI N ≤ 1000000000 from Int32.not_lt.mp h1'), e, bd_s]
    exact ok_b (o7_tell_ _ _ (rW_Sz h) hQ) (fun _ w3 q3 => ok_r ⟨rfl, rW_Q h q3⟩)
  · obtain ⟨-, -, -, -, H, hD⟩ := id h1
    have hD := uD_sf hD
    obtain ⟨w2, k1, -, -, -, e⟩ := pg8 (w0 := (w1, False)) (J := J) (S8 := S) (T8 := T) (H8 := H) (v := nI v) (P := pwP J v) (D := pwD J v) (e := ae J v) (fun w q => em_s hW q.1) (fun w q => el_s hW q.1 hv) rfl (fun w n q n1 n2 => by rw [pwD_e n1 n2]; exact (jn_s hW q.1 (pwP_V hW hv _) (pwP_V hW hv _)).1) (fun w n q n1 n2 n3 => by rw [pwP_e n1 n2 n3]; exact (jn_s hW q.1 (pwD_V hW hv n) (ae_V hW hv)).1) (fun n hn => by unfold pwD; rw [if_pos hn]) 32 N (zsI w1 74 0 0) (by omega) (by omega) (by decide) (uD_0 hD)
    rw [fX8_powers, lt_e, i8, bd_s, tt, h3, bd_s, tt, e, bd_s, lt_e]
    exact ok_b (enters_s (n := 0) (uD_1 (v := 0) k1) rfl (by decide) _) (fun _ w3 a3 => ok_b (enters_s a3.1 a3.2 (by decide) _) (fun _ w4 a4 => ok_r ⟨rfl, rW_D h1 a4.1⟩))
/-- kinds whose ELEMENTs return behind some ITEMs -/
theorem unl_s {J : aJ} {w : zW} (hW : jW J) (hc : cJ J w) : ∃ N, N ≤ 10000 ∧ fX0_unlikeItems w = some (nI N, w) ∧ ∀ u, u < 10000 → ∃ i, i < N ∧ ae J i = ae J u := by
  rcases kd8 hW with e | e | e | e | e | e | e | e
  · refine ⟨10000, Nat.le_refl _, ?_, fun u hu => ⟨u, hu, rfl⟩⟩
    rw [fX0_unlikeItems, hc.1, e]; rfl
  · refine ⟨10000, Nat.le_refl _, ?_, fun u hu => ⟨u, hu, rfl⟩⟩
    rw [fX0_unlikeItems, hc.1, e]; rfl
  · refine ⟨10000, Nat.le_refl _, ?_, fun u hu => ⟨u, hu, rfl⟩⟩
    rw [fX0_unlikeItems, hc.1, e]; rfl
  · refine ⟨10000, Nat.le_refl _, ?_, fun u hu => ⟨u, hu, rfl⟩⟩
    rw [fX0_unlikeItems, hc.1, e]; rfl
  · refine ⟨20, by decide, ?_, fun u hu => ⟨u % 20, Nat.mod_lt _ (by decide), ?_⟩⟩
    · rw [fX0_unlikeItems, hc.1, e]; rfl
    · rw [ae_k e, ae_k e]
      have e1 : u % 20 % 2 = u % 2 := by omega
      have e2 : u % 20 / 2 % 10 = u / 2 % 10 := by omega
      show ((if u % 20 % 2 = 0 then (0 : Int64) else lN (u % 20 / 2 % 10)), (if u % 20 % 2 = 0 then lN (u % 20 / 2 % 10) else (0 : Int64))) = ((if u % 2 = 0 then (0 : Int64) else lN (u / 2 % 10)), (if u % 2 = 0 then lN (u / 2 % 10) else (0 : Int64)))
      rw [e1, e2]
  · refine ⟨24, by decide, ?_, fun u hu => ⟨u % 24, Nat.mod_lt _ (by decide), ?_⟩⟩
    · rw [fX0_unlikeItems, hc.1, e]; rfl
    · rw [ae_k e, ae_k e]
      show (lN (u % 24 % 24), lN (lpF (u % 24 % 24) % 2)) = (lN (u % 24), lN (lpF (u % 24) % 2))
      rw [Nat.mod_mod]
  · refine ⟨10000, Nat.le_refl _, ?_, fun u hu => ⟨u, hu, rfl⟩⟩
    rw [fX0_unlikeItems, hc.1, e]; rfl
  · refine ⟨jN J, by have := hW.2.2.1; omega, ?_, fun u hu => ⟨u % jN J, Nat.mod_lt _ hW.2.1, ?_⟩⟩
    · rw [fX0_unlikeItems, hc.1, e, hc.2.1]; rfl
    · rw [ae_k e, ae_k e]
      show (lN (u % jN J % jN J), (0 : Int64)) = (lN (u % jN J), 0)
      rw [Nat.mod_mod]
theorem undo_c {J : aJ} {w0 w : zW} (hW : jW J) (hc : cJ J w0) (q : Qc w0 w) {v u : Nat} (hv : v < 10000) (hu : u < 10000) : ∃ w', Qc w0 w' ∧ fX0_undo (nI v) (nI u) w = some (decide (aj J (ae J v) (ae J u) = ao J), w') := by
  have q1 : Qc w0 (setC w (epF (jK J) (jN J) v) (eqF (jK J) v)) := qc_C q
  have c2 := c_follow hW (cJ_Q hc q1) hu (val_e hW hv)
  have q2 : Qc w0 (setC (setC w (epF (jK J) (jN J) v) (eqF (jK J) v)) (aj J (ae J v) (ae J u)).1 (aj J (ae J v) (ae J u)).2) := qc_C q1
  have o := c_oe hW (cJ_Q hc q2)
  refine ⟨_, q2, ?_⟩
  rw [fX0_undo, c_start hW (cJ_Q hc q) hv, bd_s, c2, bd_s]
  have o1 : fX0_emptyP (setC (setC w (epF (jK J) (jN J) v) (eqF (jK J) v)) (jpF J (zL (setC w (epF (jK J) (jN J) v) (eqF (jK J) v)) 1 2) (epF (jK J) (jN J) u) (zL (setC w (epF (jK J) (jN J) v) (eqF (jK J) v)) 1 3) (eqF (jK J) u)) (jqF J (zL (setC w (epF (jK J) (jN J) v) (eqF (jK J) v)) 1 2) (epF (jK J) (jN J) u) (zL (setC w (epF (jK J) (jN J) v) (eqF (jK J) v)) 1 3) (eqF (jK J) u))) = some (opF (jK J) (jE J), _) := o.1
  rw [o1, bd_s, o.2, bd_s]
  have e5 : fX0_comesTo (opF (jK J) (jE J)) (oqF (jK J)) (setC (setC w (epF (jK J) (jN J) v) (eqF (jK J) v)) (aj J (ae J v) (ae J u)).1 (aj J (ae J v) (ae J u)).2) = some (decide (aj J (ae J v) (ae J u) = ao J), setC (setC w (epF (jK J) (jN J) v) (eqF (jK J) v)) (aj J (ae J v) (ae J u)).1 (aj J (ae J v) (ae J u)).2) := by
    rw [fX0_comesTo]
    show (if ¬ (aj J (ae J v) (ae J u)).1 = (ao J).1 then _ else if ¬ (aj J (ae J v) (ae J u)).2 = (ao J).2 then _ else _) = _
    by_cases d1 : (aj J (ae J v) (ae J u)).1 = (ao J).1
    · by_cases d2 : (aj J (ae J v) (ae J u)).2 = (ao J).2
      · rw [if_neg (not_not_intro d1), if_neg (not_not_intro d2), decide_eq_true (show aj J (ae J v) (ae J u) = ao J from Prod.ext d1 d2)]
      · rw [if_neg (not_not_intro d1), if_pos d2, decide_eq_false (show ¬ aj J (ae J v) (ae J u) = ao J from fun z => d2 (congrArg Prod.snd z))]
    · rw [if_pos d1, decide_eq_false (show ¬ aj J (ae J v) (ae J u) = ao J from fun z => d1 (congrArg Prod.fst z))]
  rw [e5, bd_s]
theorem undoes_b (h : rW J S T w) (a : Int32) : Bq (fX7_undoes a) (fX8_undoes a) Eq w := by
  obtain ⟨hW, hS, hT, ⟨H0, hC0⟩, -⟩ := id h
  have hc := hC0.1
  rcases im a with ⟨i7, i8⟩ | ⟨v, hv, rfl, i7, i8⟩
  · exact bq_x h (-1) (fun H hC => by rw [fX7_undoes, i7, bd_s, ff]) (fun w1 H hD => by rw [fX8_undoes, lt_e, i8, bd_s, ff])
  obtain ⟨N, hN, eN, hb⟩ := unl_s hW hc
  refine bh (Und (fun u => aj J (ae J v) (ae J u) = ao J ∧ aj J (ae J u) (ae J v) = ao J)) (Und (fun u => aj J (ae J v) (ae J u) = ao J ∧ aj J (ae J u) (ae J v) = ao J)) (fun x y a b => und_u a b) h ?_ (fun w1 h1 => ?_)
  · obtain ⟨x, w', hx, hQ, e⟩ := ug7 (w0 := w) (a := v) (N := N) hN (A := fun u => aj J (ae J v) (ae J u) = ao J) (B := fun u => aj J (ae J u) (ae J v) = ao J) (fun w2 u q hu => undo_c hW hc q hv (by omega)) (fun w2 u q hu => undo_c hW hc q (by omega) hv) (fun u hu hA hB => by
      obtain ⟨i, i1, i2⟩ := hb u hu
      exact ⟨i, i1, by show aj J (ae J v) (ae J i) = ao J; rw [i2]; exact hA, by show aj J (ae J i) (ae J v) = ao J; rw [i2]; exact hB⟩) zFU 0 w (Nat.zero_le _) (by unfold zFU; omega) (qc_0 w) (fun i hi => by omega)
    rw [fX7_undoes, i7, bd_s, tt, eN, bd_s]
    exact ⟨x, w', e, hx, rW_Q h hQ⟩
  · obtain ⟨-, -, -, -, H, hD⟩ := id h1
    have hD := uD_sf hD
    obtain ⟨x, w', hx, hQ, e⟩ := ug8 (w0 := (w1, False)) (J := J) (S8 := S) (T8 := T) (H8 := H) (a := v) (x2 := opF (jK J) (jE J)) (x4 := oqF (jK J)) (A := fun u => aj J (ae J v) (ae J u) = ao J) (B := fun u => aj J (ae J u) (ae J v) = ao J) (fun w2 u q hu => by
      obtain ⟨_, w3, e3, d3, -, p3, q3⟩ := joinsTwo_s hW q hv hu
      refine ⟨w3, d3, e3, ?_⟩
      rw [p3, q3]; exact Prod.ext_iff) (fun w2 u q hu => by
      obtain ⟨_, w3, e3, d3, -, p3, q3⟩ := joinsTwo_s hW q hu hv
      refine ⟨w3, d3, e3, ?_⟩
      rw [p3, q3]; exact Prod.ext_iff) zFU 0 (setS (zsI w1 74 0 0) (opF (jK J) (jE J)) (oqF (jK J))) (Nat.zero_le _) (by unfold zFU; omega) (uD_S (uD_0 hD)) (fun i hi => by omega)
    rw [fX8_undoes, lt_e, i8, bd_s, tt, em_s hW (uD_0 hD).1, bd_s, lt_e, lt_e, setS_p, setS_q]
    exact ⟨x, w', e, hx, rW_D h1 hQ⟩
end BP
