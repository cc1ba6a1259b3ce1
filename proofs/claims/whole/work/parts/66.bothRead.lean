/-! both: the calls that read -/
section BREAD
variable {E : am_E} {g : GG} {fl : FF} {v1 v2 : Int}
theorem al_flaw (h : Rel g fl) : AlI E 4 104 [] g fl := by
  obtain ⟨b, n, w, mk1, td, N, T, P, b', mk', T', P', H⟩ := h
  refine flawC_ok H.rc (fun g1 k1 R1 => ?_)
  have H1 := H.kc k1 R1
  exact b104 (flawM_ok H1.rm ⟨H.same.1, H1.rel⟩)
theorem al_word (h : Rel g fl) : AlI E 6 135 [amI v1, amI v2] g fl := by
  obtain ⟨b, n, w, mk1, td, N, T, P, b', mk', T', P', H⟩ := h
  refine wordC_ok H.rc (fun g1 k1 R1 => ?_)
  have H1 := H.kc k1 R1
  exact wordM_ok H1.rm (fun g2 k2 => ⟨same_word H.same, (H1.km k2).rel⟩)
theorem al_syll (h : Rel g fl) : AlI E 7 138 [amI v1, amI v2] g fl := by
  obtain ⟨b, n, w, mk1, td, N, T, P, b', mk', T', P', H⟩ := h
  refine syllC_ok H.rc (fun g1 k1 R1 => ?_)
  have H1 := H.kc k1 R1
  exact syllM_ok H1.rm (fun g2 k2 => ⟨same_syll H.same, (H1.km k2).rel⟩)
theorem al_marked (h : Rel g fl) : AlI E 10 141 [amI v1] g fl := by
  obtain ⟨b, n, w, mk1, td, N, T, P, b', mk', T', P', H⟩ := h
  refine markedC_ok H.rc (fun g1 k1 R1 => ?_)
  have H1 := H.kc k1 R1
  exact markedM_ok H1.rm (fun g2 k2 => ⟨same_marked H.same, (H1.km k2).rel⟩)
theorem al_clash (hv : am_rg v1) (h : Rel g fl) : AlI E 11 143 [amI v1] g fl := by
  obtain ⟨b, n, w, mk1, td, N, T, P, b', mk', T', P', H⟩ := h
  refine clashC_ok H.rc (fun g1 k1 R1 => ?_)
  have H1 := H.kc k1 R1
  exact clashM_ok hv H1.rm (fun g2 k2 => ⟨same_cl H.same, (H1.km k2).rel⟩)
theorem al_heard (h : Rel g fl) : AlI E 12 145 [amI v1] g fl := by
  obtain ⟨b, n, w, mk1, td, N, T, P, b', mk', T', P', H⟩ := h
  refine heardC_ok H.rc (fun g1 k1 R1 => ?_)
  have H1 := H.kc k1 R1
  exact heardM_ok H1.rm (fun g2 k2 => ⟨same_hd H.same, (H1.km k2).rel⟩)
theorem al_near (h : Rel g fl) : AlI E 15 150 [] g fl := by
  obtain ⟨b, n, w, mk1, td, N, T, P, b', mk', T', P', H⟩ := h
  refine nearC_ok H.rc (fun g1 k1 R1 => ?_)
  have H1 := H.kc k1 R1
  exact nearM_ok H1.rm (fun g2 k2 => ⟨by rw [same_nr H.same], (H1.km k2).rel⟩)
theorem al_nearest (h : Rel g fl) : AlI E 16 155 [amI v1] g fl := by
  obtain ⟨b, n, w, mk1, td, N, T, P, b', mk', T', P', H⟩ := h
  refine nearestC_ok H.rc (fun g1 k1 R1 => ?_)
  have H1 := H.kc k1 R1
  exact nearestM_ok H1.rm (fun g2 k2 => ⟨by rw [same_ns H.same], (H1.km k2).rel⟩)
theorem al_share (h : Rel g fl) : AlI E 18 161 [amI v1] g fl := by
  obtain ⟨b, n, w, mk1, td, N, T, P, b', mk', T', P', H⟩ := h
  refine shareC_ok H.rc (fun g1 k1 R1 => ?_)
  have H1 := H.kc k1 R1
  exact shareM_ok H1.rm (fun g2 k2 => ⟨same_sh H.same, (H1.km k2).rel⟩)
theorem al_text (h : Rel g fl) : AlI E 19 164 [amI v1] g fl := by
  obtain ⟨b, n, w, mk1, td, N, T, P, b', mk', T', P', H⟩ := h
  refine textC_ok H.rc (fun g1 k1 R1 => ?_)
  have H1 := H.kc k1 R1
  exact textM_ok H1.rm (fun g2 k2 => ⟨same_text H.same, (H1.km k2).rel⟩)
theorem al_count (h : Rel g fl) : AlI E 26 177 [amI v1] g fl := by
  obtain ⟨b, n, w, mk1, td, N, T, P, b', mk', T', P', H⟩ := h
  refine countC_ok H.rc (fun g1 k1 R1 => ?_)
  have H1 := H.kc k1 R1
  have e : g1 49 33 = g 0 12 := by rw [← H1.fi]; exact k1 0 12 (by omega) (by omega) (by omega) (by omega)
  exact countM_ok H1.rm (fun g2 k2 => ⟨by rw [e]; exact same_cnt H.same, (H1.km k2).rel⟩)
theorem al_digest (h : Rel g fl) : AlL E 27 179 g fl := by
  obtain ⟨b, n, w, mk1, td, N, T, P, b', mk', T', P', H⟩ := h
  refine digestC_ok H.rc (fun g1 k1 R1 => ?_)
  have H1 := H.kc k1 R1
  have e : g1 49 33 = g 0 12 := by rw [← H1.fi]; exact k1 0 12 (by omega) (by omega) (by omega) (by omega)
  exact digestM_ok H1.rm (fun g2 k2 => ⟨by rw [e]; exact same_dg H.same, (H1.km k2).rel⟩)
end BREAD
