theorem am_kl5 : (List.range 120).all (fun k => am_okA 299 (600 + k)) = true := by decide +kernel
