import java.math.BigInteger;
import java.security.AlgorithmParameters;
import java.security.KeyFactory;
import java.security.MessageDigest;
import java.security.PrivateKey;
import java.security.PublicKey;
import java.security.SecureRandom;
import java.security.Signature;
import java.security.spec.ECGenParameterSpec;
import java.security.spec.ECParameterSpec;
import java.security.spec.ECPoint;
import java.security.spec.ECPrivateKeySpec;
import java.security.spec.ECPublicKeySpec;
import java.security.spec.MGF1ParameterSpec;
import java.security.spec.PSSParameterSpec;
import java.security.spec.RSAPrivateKeySpec;
import java.security.spec.RSAPublicKeySpec;
import java.util.Arrays;
import javax.crypto.Cipher;
import javax.crypto.KeyAgreement;
import javax.crypto.Mac;
import javax.crypto.spec.OAEPParameterSpec;
import javax.crypto.spec.PSource;
import javax.crypto.spec.SecretKeySpec;

/** Signatures and sealed tokens by Java's own library, to compare with. */
final class Maker {
    static final String[] SIGNED = {"HS256", "HS512", "RS256", "PS256", "ES256"};
    static final String[] SEALED = {"dir", "A128KW", "A256KW", "RSA-OAEP-256", "ECDH-ES", "ECDH-ES+A128KW"};
    static final String[] WAYS = {"A128CBC-HS256", "A256CBC-HS512", "A128GCM", "A256GCM"};
    static final int[] KEY = {32, 64, 16, 32};
    static final int[] FIRST = {16, 16, 12, 12};
    static final int[] MARK = {16, 32, 16, 16};

    private Maker() {
    }

    /** Gives just these bytes. */
    private static final class Given extends SecureRandom {
        private static final long serialVersionUID = 1;
        private final byte[] bytes;

        Given(byte[] bytes) {
            this.bytes = bytes;
        }

        @Override
        public void nextBytes(byte[] to) {
            System.arraycopy(bytes, 0, to, 0, to.length);
        }
    }

    static byte[] hash(byte[] bytes) throws Exception {
        return MessageDigest.getInstance("SHA-256").digest(bytes);
    }

    static byte[] code(int alg, byte[] key, byte[] bytes) throws Exception {
        Mac mac = Mac.getInstance(alg == 0 ? "HmacSHA256" : "HmacSHA512");
        mac.init(new SecretKeySpec(key, "x"));
        return mac.doFinal(bytes);
    }

    private static Signature rsaSignature(int alg) throws Exception {
        if (alg == 2) {
            return Signature.getInstance("SHA256withRSA");
        }
        Signature s = Signature.getInstance("RSASSA-PSS");
        s.setParameter(new PSSParameterSpec("SHA-256", "MGF1", MGF1ParameterSpec.SHA256, 32, 1));
        return s;
    }

    static byte[] signRsa(int alg, Keys k, byte[] salt, byte[] bytes) throws Exception {
        Signature s = rsaSignature(alg);
        s.initSign(KeyFactory.getInstance("RSA").generatePrivate(new RSAPrivateKeySpec(k.n, k.d)), new Given(salt));
        s.update(bytes);
        return s.sign();
    }

    /** ECDSA by numbers. */
    static byte[] signEc(BigInteger d, BigInteger k, byte[] bytes) throws Exception {
        BigInteger r = NumberTest.times(k, NumberTest.G)[0].mod(NumberTest.N);
        BigInteger z = new BigInteger(1, hash(bytes));
        BigInteger s = z.add(r.multiply(d)).multiply(k.modInverse(NumberTest.N)).mod(NumberTest.N);
        return House.join(NumberTest.fixed(r, 32), NumberTest.fixed(s, 32));
    }

    static boolean isEcRight(BigInteger d, byte[] bytes, byte[] signature) throws Exception {
        Signature s = Signature.getInstance("SHA256withECDSAinP1363Format");
        s.initVerify(ecPublic(NumberTest.times(d, NumberTest.G)));
        s.update(bytes);
        return s.verify(signature);
    }

    private static ECParameterSpec curve() throws Exception {
        AlgorithmParameters p = AlgorithmParameters.getInstance("EC");
        p.init(new ECGenParameterSpec("secp256r1"));
        return p.getParameterSpec(ECParameterSpec.class);
    }

    static PublicKey ecPublic(BigInteger[] p) throws Exception {
        return KeyFactory.getInstance("EC").generatePublic(new ECPublicKeySpec(new ECPoint(p[0], p[1]), curve()));
    }

    static byte[] shared(BigInteger d, BigInteger[] p) throws Exception {
        PrivateKey secret = KeyFactory.getInstance("EC").generatePrivate(new ECPrivateKeySpec(d, curve()));
        KeyAgreement a = KeyAgreement.getInstance("ECDH");
        a.init(secret);
        a.doPhase(ecPublic(p), true);
        return a.generateSecret();
    }

    static byte[] wrap(byte[] key, byte[] plain) throws Exception {
        Cipher c = Cipher.getInstance("AESWrap");
        c.init(Cipher.WRAP_MODE, CipherTest.aes(key));
        return c.wrap(CipherTest.aes(plain));
    }

    static byte[] oaep(Keys k, byte[] message, byte[] seed) throws Exception {
        Cipher c = Cipher.getInstance("RSA/ECB/OAEPPadding");
        c.init(Cipher.ENCRYPT_MODE, KeyFactory.getInstance("RSA").generatePublic(new RSAPublicKeySpec(k.n, k.e)),
            new OAEPParameterSpec("SHA-256", "MGF1", MGF1ParameterSpec.SHA256, PSource.PSpecified.DEFAULT), new Given(seed));
        return c.doFinal(message);
    }

    /** MGF1 of RFC 8017. */
    static byte[] mask(byte[] seed, int many) throws Exception {
        byte[] all = {};
        for (int i = 0; all.length < many; i++) {
            all = House.join(all, hash(House.join(seed, DigestTest.word(i))));
        }
        return Arrays.copyOf(all, many);
    }

    /** A token of five parts. */
    static String token(String head, byte[] sealedKey, byte[] first, int way, byte[] key, byte[] payload) throws Exception {
        byte[] sealed = CipherTest.seal(way, key, first, House.bytes(House.letters(House.utf8(head))), payload);
        int cut = sealed.length - MARK[way];
        return House.letters(House.utf8(head)) + "." + House.letters(sealedKey) + "." + House.letters(first) + "."
            + House.letters(Arrays.copyOf(sealed, cut)) + "." + House.letters(Arrays.copyOfRange(sealed, cut, sealed.length));
    }
}
