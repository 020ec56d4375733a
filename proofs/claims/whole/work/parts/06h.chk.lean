/-! the methods against their bytes, 7 -/
theorem ck_M_digest : MOK m_M_digest (cd_M_digest, 2, 3) := ⟨by decide +kernel, ckl (B := 187) (fun p hp => bg p hp) (by decide +kernel)⟩
theorem ck_J_bitCount : MOK m_J_bitCount (cd_J_bitCount, 1, 1) := ⟨by decide +kernel, ckl (B := 53) (fun p hp => bg p hp) (by decide +kernel)⟩
theorem ck_J_fill : MOK m_J_fill (cd_J_fill, 4, 0) := ⟨by decide +kernel, ckl (B := 21) (fun p hp => bg p hp) (by decide +kernel)⟩
theorem ck_J_ix1 : MOK m_J_ix1 (cd_J_ix1, 2, 1) := ⟨by decide +kernel, ckl (B := 7) (fun p hp => bg p hp) (by decide +kernel)⟩
theorem ck_J_ix2 : MOK m_J_ix2 (cd_J_ix2, 3, 1) := ⟨by decide +kernel, ckl (B := 37) (fun p hp => bg p hp) (by decide +kernel)⟩
theorem ck_J_isLatin1 : MOK m_J_isLatin1 (cd_J_isLatin1, 1, 2) := ⟨by decide +kernel, ckl (B := 19) (fun p hp => bg p hp) (by decide +kernel)⟩
theorem ck_J_len : MOK m_J_len (cd_J_len, 1, 1) := ⟨by decide +kernel, ckl (B := 11) (fun p hp => bg p hp) (by decide +kernel)⟩
theorem ck_J_coder : MOK m_J_coder (cd_J_coder, 1, 4) := ⟨by decide +kernel, ckl (B := 15) (fun p hp => bg p hp) (by decide +kernel)⟩
theorem ck_J_Lix : MOK m_J_Lix (cd_J_Lix, 4, 1) := ⟨by decide +kernel, ckl (B := 37) (fun p hp => bg p hp) (by decide +kernel)⟩
theorem ck_J_canE : MOK m_J_canE (cd_J_canE, 1, 2) := ⟨by decide +kernel, ckl (B := 17) (fun p hp => bg p hp) (by decide +kernel)⟩
theorem ck_J_Lixc : MOK m_J_Lixc (cd_J_Lixc, 6, 1) := ⟨by decide +kernel, ckl (B := 33) (fun p hp => bg p hp) (by decide +kernel)⟩
