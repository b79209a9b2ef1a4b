theorem st_judge : sII Rel (fun σ => f_X10_judge nmX σ) (fun σ => f_X11_judge nmM σ) := by
  rintro σ ⟨n, m, hSi, hN, hSo, hD, hSg, hL, hI0, hI1, hT, hF, hTo⟩
  obtain ⟨c, hg, hc10, hv⟩ := SongOk.of hSi hSo
  obtain ⟨C, hC, ⟨l1, l2⟩, l3⟩ := id hL
  obtain ⟨⟨r, τ1⟩, ht1, hj1, hu1⟩ := xjudge (n := n) (m := m) (c := c) (C := C) (σ := σ) hC l1 hSi hN.1 hg
  have hu1 : ux (wCp 62) σ τ1 := hu1
  have h57 : ∀ a k, a < 57 → wCp 62 a k = false := fun a k h => by simp [wCp]; omega
  have hSi1 : RSite n m τ1 := RSite.cg hu1 (okS_ux h57 (fun _ => rfl) (fun _ _ => rfl)) (fun l _ => ⟨rfl, rfl, rfl⟩) hSi
  have hN1 : RNow n τ1 := RNow.cg hu1 ⟨fun _ => rfl, fun _ => rfl, fun _ => rfl, fun _ => rfl, fun _ => rfl, fun _ => rfl, fun _ => rfl, rfl, rfl, rfl, rfl, rfl, rfl, rfl, rfl⟩ (fun _ _ => rfl) hN
  obtain ⟨⟨r2, τ2⟩, ht2, hj2, hu2, hv2, e14, e17⟩ := mjudge (n := n) (m := m) (c := c) (C := C) (σ := τ1) hC ((hu1 101 47 rfl).trans l2) (fun k hk => by rw [hu1 124 k rfl, hu1 80 k rfl]; exact l3 k hk) hSi1 hN1 (SongOk.cg hu1 h57 hg) ((hu1 101 10 rfl).trans hc10) (fun k hk => by rw [hu1 107 _ rfl, hu1 107 _ rfl, hu1 107 _ rfl, hu1 50 k rfl, hu1 52 k rfl, hu1 54 k rfl]; exact hv k hk)
  have hu2 : ux wJm τ1 τ2 := hu2
  have hmu : itr (prm τ1 57 n c) (muX τ1 57) = itr (prm σ 57 n c) (muX σ 57) := by
    rw [prm_cg hu1 h57 (fun _ => rfl) rfl rfl]
    have e : muX τ1 57 = muX σ 57 := by
      unfold muX
      have a2 : g_i τ1 (57 + 2) = g_i σ (57 + 2) := funext (fun k => hu1 (57 + 2) k rfl)
      have a3 : g_i τ1 (57 + 3) = g_i σ (57 + 3) := funext (fun k => hu1 (57 + 3) k rfl)
      have a4 : g_i τ1 (57 + 4) = g_i σ (57 + 4) := funext (fun k => hu1 (57 + 4) k rfl)
      rw [a2, a3, a4, hu1 57 5 rfl, hu1 57 8 rfl]
    rw [e]
  have hjq : jq τ1 n c = jq σ n c := by
    funext i
    unfold jq scr
    rw [hmu, hu1 80 i rfl, hu1 31 9 rfl]
  rw [hjq] at hj2
  have hrr : r2 = r := JP_one hj2 hj1
  subst hrr
  have hu := ux_trans hu1 hu2
  have h57' : ∀ a k, a < 57 → wJm a k = false := fun a k h => by simp [wJm, wMm]; omega
  refine ⟨r2, τ1, τ2, ht1, ht2, n, m, ?_, ?_, ?_, ?_, ?_, ?_, ?_, ?_, ?_, ?_, ?_⟩
  · exact RSite.cg hu2 (okS_ux h57' (fun _ => rfl) (fun k h => by simp [wJm, wMm]; omega)) (fun l _ => ⟨rfl, rfl, rfl⟩) hSi1
  · obtain ⟨hM, n0, n1, n2, n3, n4, n5⟩ := hN1
    refine ⟨RMom.cg hu2 ⟨fun _ => rfl, fun _ => rfl, fun _ => rfl, rfl, rfl, rfl⟩ hM, fun l hl => ?_, fun l hl => ?_, ?_, ?_, ?_, ?_⟩
    · rw [hu2 102 _ rfl, hu2 58 l rfl]; exact n0 l hl
    · rw [(hv2 l hl).1, (hv2 l hl).2.1, (hv2 l hl).2.2, hu2 59 l rfl, hu2 60 l rfl, hu2 61 l rfl]; exact n1 l hl
    · rw [hu2 57 5 rfl]; exact e14.trans n2
    · rw [hu2 101 15 rfl, hu2 57 6 rfl]; exact n3
    · rw [hu2 101 16 rfl, hu2 57 7 rfl]; exact n4
    · rw [hu2 57 8 rfl]; exact e17.trans n5
  · exact RSongs.cg hu ⟨fun _ => rfl, fun _ => rfl, fun _ => rfl, fun _ => rfl, fun _ => rfl, fun _ => rfl, fun _ => rfl, rfl⟩ hSo
  · exact RDays.cg hu ⟨fun _ => rfl, fun _ => rfl, fun _ => rfl, rfl⟩ hD
  · exact RSig.cg hu ⟨fun _ => rfl, fun _ => rfl, fun _ => rfl, rfl⟩ hSg
  · exact RLog.cg hu ⟨fun _ => rfl, fun _ => rfl, fun _ => rfl, rfl⟩ hL
  · exact RImg.cg hu ⟨fun _ => rfl, fun _ => rfl, fun _ => rfl, fun _ => rfl, fun _ => rfl, fun _ => rfl, fun _ => rfl⟩ hI0
  · exact RImg.cg hu ⟨fun _ => rfl, fun _ => rfl, fun _ => rfl, fun _ => rfl, fun _ => rfl, fun _ => rfl, fun _ => rfl⟩ hI1
  · exact RText.cg hu ⟨fun _ => rfl, fun _ => rfl, fun _ => rfl, rfl⟩ hT
  · exact RFault.cg hu ⟨rfl, rfl⟩ hF
  · exact RTour.cg hu ⟨fun _ => rfl, fun _ => rfl, fun _ => rfl, fun _ => rfl, fun _ => rfl, fun _ => rfl, fun _ => rfl, rfl, rfl⟩ hTo
