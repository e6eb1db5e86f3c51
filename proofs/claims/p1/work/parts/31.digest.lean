set_option maxRecDepth 1000000 in
theorem al_digest : alike (eX 79 mX6_digest.ml []) (eY 199 mX7_digest.ml []) = true := by decide +kernel
