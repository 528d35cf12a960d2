/** Brings a text to THE TAPE of an object. */
final class Texts {
    private Texts() {
    }

    /** How many bytes THE TAPE has then; what the last feed() answers if one was refused. */
    static int feed(DoubledBridge x, String text) {
        int has = x.many(5);
        for (int at = 0; at < text.length(); at += 8) {
            int n = Math.min(8, text.length() - at);
            long eight = 0;
            for (int i = n - 1; i >= 0; i--) {
                eight = eight << 8 | text.charAt(at + i) & 255;
            }
            has = x.feed(eight, n);
        }
        return has;
    }

    /** What law() answers to a text. */
    static int law(DoubledBridge x, String text) {
        feed(x, text);
        return x.law();
    }
}
