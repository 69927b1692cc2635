/** Promises 2 to 10: letters and their trees. */
public final class LettersTest {
    public static void main(String[] args) {
        ChainLetters x = new ChainLetters();
        Check.due("letter(0, 99)", x.letter(0, 99), 0);
        Check.end();
    }
}
