theorem am_kl0 : (List.range 120).all (fun k => am_okA 299 (0 + k)) = true := by decide +kernel
