import java.util.function.IntFunction;

/**
 * What the tests by sentence share. Each one begins with the sentence that it tells, which must stand in the
 * document, and with a new object, of which it makes no more calls than the document allows.
 */
abstract class Sentences {
    /** 1000000 drams on one spoon, in 11 tokens. */
    protected static final String MILLION = "1010*10*10*10*10*";
    /** The document allows 512; the rest is for the few calls that are not counted here. */
    private static final int MOST_COUNTED = 420;

    protected final Check check;
    protected CauldronTypes x;
    private final Document document;
    private String told = "";
    private int calls;

    Sentences(Check check, Document document) {
        this.check = check;
        this.document = document;
    }

    /** Runs one test for each sentence, in the order of the document. */
    abstract void all();

    /** Begins the test of sentences of a promise. */
    protected final void promise(int number, String... sentences) {
        begin(number, "Promise " + number, sentences);
    }

    /** Begins the test of sentences that many promises share, told by the one that shows them best. */
    protected final void term(int number, String section, String... sentences) {
        begin(number, section, sentences);
    }

    private void begin(int number, String section, String... sentences) {
        keepsToItsCalls();
        told = number + ": " + section + ": " + sentences[0] + ": ";
        for (String sentence : sentences) {
            check.same(told + "the document says so", true, document.tell(section, sentence));
        }
        anew();
    }

    /** Goes on with another new object. */
    protected final void anew() {
        keepsToItsCalls();
        x = new CauldronTypes();
        calls = 0;
    }

    final void keepsToItsCalls() {
        check.same(told + "keeps to its calls, which are " + calls, true, calls <= MOST_COUNTED);
    }

    protected final void is(String what, Object due, Check.Call call) {
        calls++;
        check.is(told + what, due, call);
    }

    protected final void same(String what, Object due, Object got) {
        check.same(told + what, due, got);
    }

    protected final void outside(String what, Check.Call call) {
        is(what, "throws IndexOutOfBoundsException", call);
    }

    /** No number from below 0, and none from the first on that there is not. */
    protected final void outsideFrom(int first, IntFunction<Object> call) {
        for (int number : new int[] {first, first + 1, -1, 256, -256, Integer.MAX_VALUE, Integer.MIN_VALUE}) {
            outside("none at " + number, () -> call.apply(number));
        }
    }

    protected final void illegal(String what, Check.Call call) {
        is(what, "throws IllegalArgumentException", call);
    }

    protected final void noElement(String what, Check.Call call) {
        is(what, "throws NoSuchElementException", call);
    }

    protected final void noElementFrom(int first, IntFunction<Object> call) {
        for (int number : new int[] {first, first + 1, -1, 256, -256, Integer.MAX_VALUE, Integer.MIN_VALUE}) {
            noElement("none at " + number, () -> call.apply(number));
        }
    }

    /** The call is refused for a reason without a cause. */
    protected final void refused(String what, Check.Call call, int reason, int detail) {
        is(what, "throws UnsupportedOperationException", call);
        is(what + ", reason", reason, () -> x.reason(false, false));
        is(what + ", detail", detail, () -> x.reason(false, true));
        noElement(what + ", cause", () -> x.reason(true, false));
        noElement(what + ", detail of the cause", () -> x.reason(true, true));
    }

    /** The spell boils over by the token of this place, in thought and as it is cooked. */
    protected final void boilsOver(int spell, int place, int cause, int detail) {
        String what = "boils over by " + place;
        is(what + " in thought", place, () -> x.boils(spell));
        noElement(what + " in thought, by spoons", () -> x.would(spell, 0));
        noElement(what + " in thought, by stores", () -> x.wouldAgain(spell, 0));
        is(what + ", and never lasts", 0, () -> x.lasts(spell));
        is(what, "throws UnsupportedOperationException", () -> x.cook(spell));
        is(what + ", reason", 6, () -> x.reason(false, false));
        is(what + ", detail", place, () -> x.reason(false, true));
        is(what + ", cause", cause, () -> x.reason(true, false));
        is(what + ", detail of the cause", detail, () -> x.reason(true, true));
    }

    /** Writes the text, in place of the spell 0 if there is one, and looks by which token it boils over. */
    protected final void textBoilsOver(String text, int place, int cause, int detail) {
        put(text);
        boilsOver(0, place, cause, detail);
    }

    protected final void malformed(String text, int position) {
        is("malformed: " + text, "throws IllegalArgumentException", () -> write(text));
        is("error position of: " + text, position, x::errorPosition);
        is("no input is left of: " + text, 0, () -> x.account(8));
    }

    protected final int write(String text) {
        type(text);
        calls++;
        return x.write();
    }

    protected final void type(String text) {
        for (int index = 0; index < text.length(); index++) {
            calls++;
            x.append(text.charAt(index));
        }
    }

    /** Writes the text as the spell 0, in place of the one that was it. */
    protected final void put(String text) {
        calls++;
        if (x.account(1) > 0) {
            calls++;
            x.erase(0);
        }
        is("is written: " + text, 0, () -> write(text));
    }

    /** The line, up to its end. */
    protected final String line() {
        StringBuilder line = new StringBuilder();
        for (int index = 0; index < MOST_COUNTED; index++) {
            calls++;
            try {
                line.append(x.character(index));
            } catch (java.util.NoSuchElementException end) {
                break;
            }
        }
        return line.toString();
    }

    /** What the object remembers for a change, as far as calls tell it, and how many changes it remembers. */
    protected final String state() {
        StringBuilder state = new StringBuilder();
        for (int account : new int[] {0, 1, 2, 3, 4, 5, 7, 9}) {
            state.append(x.account(account)).append(' ');
        }
        int cauldrons = x.account(0);
        for (int cauldron = 0; cauldron < cauldrons; cauldron++) {
            state.append("| ").append(x.bits(cauldron));
            for (int what : new int[] {0, 1, 2, 4}) {
                state.append(' ').append(x.cauldronOf(cauldron, what));
            }
        }
        int spells = x.account(1);
        for (int spell = 0; spell < spells; spell++) {
            state.append("| ").append(x.spellOf(spell, 0)).append(x.token(spell, 0)).append(x.spellOf(spell, 4));
        }
        calls += 10 + 5 * cauldrons + 3 * spells;
        return state.toString();
    }

    /** What the object does not remember for a change, but for what was saved. */
    protected final String kept() {
        StringBuilder kept = new StringBuilder();
        for (int flags = 0; flags < 4; flags++) {
            boolean isCause = flags > 1;
            boolean isDetail = flags % 2 == 1;
            kept.append(answer(() -> x.reason(isCause, isDetail))).append(' ');
        }
        kept.append(answer(x::errorPosition)).append(' ');
        kept.append(x.account(6)).append(' ').append(x.account(8)).append(' ').append(line());
        calls += 7;
        return kept.toString();
    }

    private static String answer(Check.Call call) {
        try {
            return call.answer().toString();
        } catch (RuntimeException thrown) {
            return "none";
        }
    }

    /** Behind these calls there must be all that was there ahead of them. */
    protected final void unchanged(Runnable some) {
        String before = state() + kept();
        some.run();
        same("the state is unchanged", before, state() + kept());
    }

    /** Behind these calls, which may keep a reason or an error position, the rest must be as it was. */
    protected final void unchangedButKept(Runnable some) {
        String before = state();
        some.run();
        same("the state is unchanged but for what is kept", before, state());
    }
}
