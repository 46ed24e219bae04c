/** THE TAPE as a test builds it: acts behind one another, then their check. */
final class Tape {
    private final StringBuilder bytes = new StringBuilder();
    int acts;

    Tape add(int act, long... arguments) {
        acts++;
        number(act);
        for (long argument : arguments) {
            number(argument);
        }
        return this;
    }

    Tape addClauses(int policy, String text) {
        add(6, policy, text.length());
        for (int i = 0; i < text.length(); i++) {
            number(text.charAt(i));
        }
        return this;
    }

    private void number(long v) {
        long rest = v < 0 ? -2 * v - 1 : 2 * v;
        for (; Long.compareUnsigned(rest, 127) > 0; rest >>>= 7) {
            bytes.append((char) (128 + (rest & 127)));
        }
        bytes.append((char) rest);
    }

    String good() {
        int[] all = new int[bytes.length()];
        for (int i = 0; i < all.length; i++) {
            all[i] = bytes.charAt(i);
        }
        return Desk.checked(all);
    }

    /** Its last byte is not as told. */
    String bad() {
        String good = good();
        int last = good.length() - 1;
        return good.substring(0, last) + (char) (good.charAt(last) ^ 1);
    }

    /** Puts the bytes behind what is on THE TAPE, eight in a call: how many calls. */
    static int type(Office office, String bytes) {
        int calls = 0;
        for (int i = 0; i < bytes.length(); i += 8) {
            long w = 0;
            int n = Math.min(8, bytes.length() - i);
            for (int k = 0; k < n; k++) {
                w = w << 8 | bytes.charAt(i + k);
            }
            office.type(w, n);
            calls++;
        }
        return calls;
    }
}
