theorem am_kl10 : (List.range 120).all (fun k => am_okA 299 (1200 + k)) = true := by decide +kernel
