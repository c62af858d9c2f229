import java.util.NoSuchElementException;

/**
 * A cookbook compiler for witches. The document ../shared/DOC.md says what each call promises; the
 * comments here only say why a thing is done as it is.
 */
public final class CauldronTypes {
    private static final int MOST_CAULDRONS = 6;
    private static final int MOST_SPELLS = 4;
    private static final int MOST_TOKENS = 24;
    private static final int MOST_SPOONS = 5;
    private static final int MOST_CHARACTERS = 60;
    private static final int MOST_CHANGES = 6;
    private static final int MOST_ROUNDS = 50;
    private static final int MOST_DRAMS = 99;
    private static final int MOST_RECKONED = 1000000;
    private static final int MOST_HUNDREDTHS = 9999;

    private static final int TAKE = 0;
    private static final int PUT = 1;
    private static final int ADD = 2;
    private static final int SUBTRACT = 3;
    private static final int MULTIPLY = 4;
    private static final int TO_BROTH = 5;
    private static final int TO_DRAMS = 6;
    private static final int STORE = 7;

    private static final int IS_FULL = 1;
    private static final int IS_BROTH = 2;
    private static final int DOES_NOT_HOLD = 3;
    private static final int IS_DRAMS = 4;
    private static final int NO_CAULDRON = 5;
    private static final int BOILS_OVER = 6;
    private static final int KINDS_APART = 7;
    private static final int OUT_OF_RECKONING = 8;
    private static final int NONE_TYPES = 9;

    private static final int NOWHERE = -1;

    private final Book book;
    private final Book saved;
    private boolean isSaved;
    private final History history;
    private final Refusal refusal;
    private final Reader reader;
    private final Typing typing;
    private final TypingByStores typingByStores;
    private final Cooking cooking;
    private final CookingByStores cookingByStores;
    private final char[] input;
    private int inputLength;
    private int keptError;
    private final StringBuilder line;
    private int boiledOver;

    public CauldronTypes() {
        book = new Book();
        saved = new Book();
        isSaved = false;
        history = new History();
        refusal = new Refusal();
        reader = new Reader();
        typing = new Typing();
        typingByStores = new TypingByStores();
        cooking = new Cooking();
        cookingByStores = new CookingByStores();
        input = new char[MOST_CHARACTERS];
        inputLength = 0;
        keptError = NOWHERE;
        line = new StringBuilder();
        boiledOver = 0;
    }

    // ---- cauldrons

    public int drams(int low, int high) throws IllegalArgumentException, UnsupportedOperationException {
        needBounds(low, high);
        needRoomForCauldron();
        history.remember(book);
        return book.setUp(false, low, high);
    }

    public int broth() throws UnsupportedOperationException {
        needRoomForCauldron();
        history.remember(book);
        return book.setUp(true, -MOST_DRAMS, MOST_DRAMS);
    }

    public int pour(int cauldron, int many) throws IndexOutOfBoundsException, UnsupportedOperationException {
        needCauldron(cauldron);
        needDrams(cauldron);
        if (!book.holds(cauldron, many)) {
            refusal.keep(DOES_NOT_HOLD, many);
            throw new UnsupportedOperationException("the cauldron does not hold so many drams");
        }
        history.remember(book);
        int before = book.contents.many[cauldron];
        book.contents.many[cauldron] = many;
        return before;
    }

    public int ladle(int cauldron, int hundredths)
            throws IndexOutOfBoundsException, IllegalArgumentException, UnsupportedOperationException {
        needCauldron(cauldron);
        if (hundredths < -MOST_HUNDREDTHS || hundredths > MOST_HUNDREDTHS) {
            throw new IllegalArgumentException("the hundredths are not from -9999 to 9999");
        }
        if (!book.isBroth[cauldron]) {
            refusal.keep(IS_DRAMS, cauldron);
            throw new UnsupportedOperationException("the cauldron is of drams");
        }
        history.remember(book);
        int before = Numbers.bitsOf(book.contents.much[cauldron]);
        book.contents.much[cauldron] = (float) hundredths / 100.0f;
        return before;
    }

    public int bounds(int cauldron, int low, int high)
            throws IndexOutOfBoundsException, IllegalArgumentException, UnsupportedOperationException {
        needCauldron(cauldron);
        needBounds(low, high);
        needDrams(cauldron);
        int many = book.contents.many[cauldron];
        if (many < low || many > high) {
            refusal.keep(DOES_NOT_HOLD, many);
            throw new UnsupportedOperationException("the cauldron would not hold what is in it");
        }
        history.remember(book);
        int typedBefore = countTyped();
        book.low[cauldron] = low;
        book.high[cauldron] = high;
        return countTyped() - typedBefore;
    }

    // ---- spells

    public int write() throws IllegalArgumentException, UnsupportedOperationException {
        int length = inputLength;
        inputLength = 0;
        int error = reader.errorIn(input, length);
        if (error != NOWHERE) {
            keptError = error;
            throw new IllegalArgumentException("the input is malformed");
        }
        if (book.spells >= MOST_SPELLS) {
            refusal.keep(IS_FULL, book.spells);
            throw new UnsupportedOperationException("there are 4 spells");
        }
        int lost = reader.placeBeyond(book.cauldrons);
        if (lost != NOWHERE) {
            refusal.keep(NO_CAULDRON, lost);
            throw new UnsupportedOperationException("a letter tells a cauldron that there is not");
        }
        history.remember(book);
        return book.putDown(new Spell(reader, input, length));
    }

    public int erase(int spell) throws IndexOutOfBoundsException {
        needSpell(spell);
        history.remember(book);
        book.strikeOut(spell);
        return book.spells;
    }

    public int cook(int spell) throws IndexOutOfBoundsException, UnsupportedOperationException {
        Spell text = needSpell(spell);
        cooking.begin(book);
        if (!cooking.goesOn(text, book)) {
            boiledOver++;
            refusal.keepWithCause(BOILS_OVER, cooking.boilsAt, cooking.cause, cooking.causeDetail);
            throw new UnsupportedOperationException("the spell boils over");
        }
        history.remember(book);
        book.settle(spell, cooking);
        return cooking.changes();
    }

    public int cookAll() throws UnsupportedOperationException {
        int cooked = countTyped();
        if (cooked == 0) {
            refusal.keep(NONE_TYPES, book.spells);
            throw new UnsupportedOperationException("no spell types");
        }
        history.remember(book);
        for (int spell = 0; spell < book.spells; spell++) {
            Spell text = book.spellAt(spell);
            if (text != null && typing.passes(text, book)) {
                cooking.begin(book);
                if (cooking.goesOn(text, book)) {
                    book.settle(spell, cooking);
                }
            }
        }
        return cooked;
    }

    // ---- what there is

    public int cauldronOf(int cauldron, int what) throws IndexOutOfBoundsException, IllegalArgumentException {
        needCauldron(cauldron);
        switch (what) {
            case 0:
                return book.isBroth[cauldron] ? 1 : 0;
            case 1:
                return book.low[cauldron];
            case 2:
                return book.high[cauldron];
            case 3:
                return book.cutContent(cauldron);
            case 4:
                return book.storesIn[cauldron];
            case 5:
                return book.spellsThat(TAKE, cauldron);
            case 6:
                return book.spellsThat(STORE, cauldron);
            default:
                throw new IllegalArgumentException("what is not 0 to 6");
        }
    }

    public float cups(int cauldron) throws IndexOutOfBoundsException, NoSuchElementException {
        needCauldron(cauldron);
        if (!book.isBroth[cauldron]) {
            throw new NoSuchElementException("the cauldron is of drams");
        }
        return book.contents.much[cauldron];
    }

    public int bits(int cauldron) throws IndexOutOfBoundsException {
        needCauldron(cauldron);
        if (book.isBroth[cauldron]) {
            return Numbers.bitsOf(book.contents.much[cauldron]);
        }
        return Numbers.bitsOf((float) book.contents.many[cauldron]);
    }

    public int spellOf(int spell, int what) throws IndexOutOfBoundsException, IllegalArgumentException {
        Spell text = needSpell(spell);
        switch (what) {
            case 0:
                return text.tokens;
            case 1:
                return text.stores;
            case 2:
                return text.mostSpoons;
            case 3:
                return typing.passes(text, book) ? 1 : 0;
            case 4:
                return book.cooked[spell];
            default:
                throw new IllegalArgumentException("what is not 0 to 4");
        }
    }

    public char token(int spell, int place) throws IndexOutOfBoundsException, NoSuchElementException {
        Spell text = needSpell(spell);
        if (place < 0 || place >= text.tokens) {
            throw new NoSuchElementException("there is no such place");
        }
        return text.firsts[place];
    }

    // ---- types

    public boolean types(int spell) throws IndexOutOfBoundsException {
        Spell text = needSpell(spell);
        return typing.passes(text, book);
    }

    public boolean typesAgain(int spell) throws IndexOutOfBoundsException {
        Spell text = needSpell(spell);
        return typingByStores.passes(text, book);
    }

    public int fault(int spell) throws IndexOutOfBoundsException, NoSuchElementException {
        Spell text = needSpell(spell);
        if (typing.passes(text, book)) {
            throw new NoSuchElementException("the spell types");
        }
        return typing.faultAt;
    }

    public int bound(int spell, int store, boolean isHigh)
            throws IndexOutOfBoundsException, NoSuchElementException {
        Spell text = needSpell(spell);
        if (!typing.passes(text, book)) {
            throw new NoSuchElementException("the spell does not type");
        }
        if (store < 0 || store >= typing.stores) {
            throw new NoSuchElementException("there is no such store");
        }
        if (typing.storeIsBroth[store]) {
            throw new NoSuchElementException("the store is of broth");
        }
        return (int) (isHigh ? typing.storeHigh[store] : typing.storeLow[store]);
    }

    public int typed() {
        return countTyped();
    }

    // ---- cooking in thought

    public int would(int spell, int cauldron) throws IndexOutOfBoundsException, NoSuchElementException {
        Spell text = needSpell(spell);
        needCauldron(cauldron);
        cooking.begin(book);
        if (!cooking.goesOn(text, book)) {
            throw new NoSuchElementException("the spell would boil over");
        }
        return cooking.now.cut(book.isBroth[cauldron], cauldron);
    }

    public int wouldAgain(int spell, int cauldron) throws IndexOutOfBoundsException, NoSuchElementException {
        Spell text = needSpell(spell);
        needCauldron(cauldron);
        if (!cookingByStores.goesWell(text, book)) {
            throw new NoSuchElementException("the spell would boil over");
        }
        return cookingByStores.leaves(text, book, cauldron);
    }

    public int boils(int spell) throws IndexOutOfBoundsException, NoSuchElementException {
        Spell text = needSpell(spell);
        cooking.begin(book);
        if (cooking.goesOn(text, book)) {
            throw new NoSuchElementException("the spell would not boil over");
        }
        return cooking.boilsAt;
    }

    public int lasts(int spell) throws IndexOutOfBoundsException {
        Spell text = needSpell(spell);
        cooking.begin(book);
        int rounds = 0;
        while (rounds < MOST_ROUNDS && cooking.goesOn(text, book) && cooking.changes() > 0) {
            rounds++;
        }
        return rounds;
    }

    public int ranked(int place) throws NoSuchElementException {
        for (int spell = 0; spell < book.spells; spell++) {
            if (book.spellsAhead(spell) == place) {
                return spell;
            }
        }
        throw new NoSuchElementException("there is no such place");
    }

    public int widest() throws NoSuchElementException {
        int widest = NOWHERE;
        int mostRoom = NOWHERE;
        for (int cauldron = 0; cauldron < book.cauldrons; cauldron++) {
            int room = book.high[cauldron] - book.low[cauldron];
            if (!book.isBroth[cauldron] && room > mostRoom) {
                widest = cauldron;
                mostRoom = room;
            }
        }
        if (widest == NOWHERE) {
            throw new NoSuchElementException("there is no cauldron of drams");
        }
        return widest;
    }

    /** The document does not say what is so; taken from the types: no spell that types would boil over. */
    public boolean isSafe() {
        for (int spell = 0; spell < book.spells; spell++) {
            Spell text = book.spellAt(spell);
            if (text != null && typing.passes(text, book)) {
                cooking.begin(book);
                if (!cooking.goesOn(text, book)) {
                    return false;
                }
            }
        }
        return true;
    }

    // ---- lines, means, accounts, history and saving

    public int tell(int spell) throws IndexOutOfBoundsException {
        Spell text = needSpell(spell);
        line.setLength(0);
        for (int index = 0; index < text.text.length; index++) {
            line.append(text.text[index]);
        }
        return line.length();
    }

    public int tellCauldron(int cauldron) throws IndexOutOfBoundsException {
        needCauldron(cauldron);
        line.setLength(0);
        line.append((char) ('a' + cauldron));
        line.append(':');
        line.append(book.cutContent(cauldron));
        if (book.isBroth[cauldron]) {
            line.append('~');
        } else {
            line.append('[');
            line.append(book.low[cauldron]);
            line.append(',');
            line.append(book.high[cauldron]);
            line.append(']');
        }
        return line.length();
    }

    public char character(int index) throws NoSuchElementException {
        if (index < 0 || index >= line.length()) {
            throw new NoSuchElementException("there is no such character");
        }
        return line.charAt(index);
    }

    public long meanBits() throws ArithmeticException {
        if (book.cauldrons == 0) {
            throw new ArithmeticException("there are no cauldrons");
        }
        double sum = 0.0;
        for (int cauldron = 0; cauldron < book.cauldrons; cauldron++) {
            if (book.isBroth[cauldron]) {
                sum = sum + (double) book.contents.much[cauldron];
            } else {
                sum = sum + (double) book.contents.many[cauldron];
            }
        }
        return Numbers.longBitsOf(sum / (double) book.cauldrons);
    }

    public float typedShare() throws ArithmeticException {
        if (book.spells == 0) {
            throw new ArithmeticException("there are no spells");
        }
        return (float) countTyped() / (float) book.spells;
    }

    public int account(int account) throws IllegalArgumentException {
        switch (account) {
            case 0:
                return book.cauldrons;
            case 1:
                return book.spells;
            case 2:
                return countTyped();
            case 3:
                return book.cauldronsOfBroth();
            case 4:
                return book.cookedSoFar;
            case 5:
                return book.storesSoFar;
            case 6:
                return boiledOver;
            case 7:
                return book.allDrams();
            case 8:
                return inputLength;
            case 9:
                return history.changes;
            default:
                throw new IllegalArgumentException("account is not 0 to 9");
        }
    }

    public int append(char character) throws IllegalArgumentException, IllegalStateException {
        if (character < 32 || character > 126) {
            throw new IllegalArgumentException("the character code is not from 32 to 126");
        }
        if (inputLength >= MOST_CHARACTERS) {
            throw new IllegalStateException("the input has 60 characters");
        }
        input[inputLength] = character;
        inputLength++;
        return inputLength;
    }

    public int errorPosition() throws NoSuchElementException {
        if (keptError == NOWHERE) {
            throw new NoSuchElementException("no error position was kept");
        }
        return keptError;
    }

    public int reason(boolean isCause, boolean isDetail) throws NoSuchElementException {
        if (!refusal.isKept) {
            throw new NoSuchElementException("no reason was kept");
        }
        if (!isCause) {
            return isDetail ? refusal.detail : refusal.reason;
        }
        if (!refusal.hasCause) {
            throw new NoSuchElementException("the reason has no cause");
        }
        return isDetail ? refusal.causeDetail : refusal.cause;
    }

    public int undo() throws NoSuchElementException {
        if (history.changes == 0) {
            throw new NoSuchElementException("no change is remembered");
        }
        history.giveBack(book);
        return history.changes;
    }

    public int save() {
        saved.copy(book);
        isSaved = true;
        return book.spells;
    }

    public int restore() throws IllegalStateException {
        if (!isSaved) {
            throw new IllegalStateException("nothing was saved");
        }
        book.copy(saved);
        history.forget();
        return book.spells;
    }

    // ---- what several calls need

    private void needCauldron(int cauldron) throws IndexOutOfBoundsException {
        if (cauldron < 0 || cauldron >= book.cauldrons) {
            throw new IndexOutOfBoundsException("there is no such cauldron");
        }
    }

    private Spell needSpell(int spell) throws IndexOutOfBoundsException {
        Spell text = book.spellAt(spell);
        if (text == null) {
            throw new IndexOutOfBoundsException("there is no such spell");
        }
        return text;
    }

    private void needBounds(int low, int high) throws IllegalArgumentException {
        if (low < -MOST_DRAMS || high > MOST_DRAMS || low > high) {
            throw new IllegalArgumentException("the bounds are not in order from -99 to 99");
        }
    }

    private void needRoomForCauldron() throws UnsupportedOperationException {
        if (book.cauldrons >= MOST_CAULDRONS) {
            refusal.keep(IS_FULL, book.cauldrons);
            throw new UnsupportedOperationException("there are 6 cauldrons");
        }
    }

    private void needDrams(int cauldron) throws UnsupportedOperationException {
        if (book.isBroth[cauldron]) {
            refusal.keep(IS_BROTH, cauldron);
            throw new UnsupportedOperationException("the cauldron is of broth");
        }
    }

    private int countTyped() {
        int count = 0;
        for (int spell = 0; spell < book.spells; spell++) {
            Spell text = book.spellAt(spell);
            if (text != null && typing.passes(text, book)) {
                count++;
            }
        }
        return count;
    }

    /** What is in the cauldrons: one row for drams, one for broth, so that a copy is two plain loops. */
    private static final class Contents {
        final int[] many = new int[MOST_CAULDRONS];
        final float[] much = new float[MOST_CAULDRONS];

        void copy(Contents other) {
            for (int cauldron = 0; cauldron < MOST_CAULDRONS; cauldron++) {
                many[cauldron] = other.many[cauldron];
                much[cauldron] = other.much[cauldron];
            }
        }

        int cut(boolean isBroth, int cauldron) {
            return isBroth ? (int) much[cauldron] : many[cauldron];
        }

        /** The row that is not of the cauldron's kind stays 0, so both may be looked at. */
        int differences(Contents other) {
            int count = 0;
            for (int cauldron = 0; cauldron < MOST_CAULDRONS; cauldron++) {
                if (many[cauldron] != other.many[cauldron]
                        || Numbers.differ(much[cauldron], other.much[cauldron])) {
                    count++;
                }
            }
            return count;
        }
    }

    /** All that the history remembers for a change. */
    private static final class Book {
        int cauldrons;
        final boolean[] isBroth = new boolean[MOST_CAULDRONS];
        final int[] low = new int[MOST_CAULDRONS];
        final int[] high = new int[MOST_CAULDRONS];
        final Contents contents = new Contents();
        final int[] storesIn = new int[MOST_CAULDRONS];
        int spells;
        final Spell[] texts = new Spell[MOST_SPELLS];
        final int[] cooked = new int[MOST_SPELLS];
        int cookedSoFar;
        int storesSoFar;

        void copy(Book other) {
            cauldrons = other.cauldrons;
            for (int cauldron = 0; cauldron < MOST_CAULDRONS; cauldron++) {
                isBroth[cauldron] = other.isBroth[cauldron];
                low[cauldron] = other.low[cauldron];
                high[cauldron] = other.high[cauldron];
                storesIn[cauldron] = other.storesIn[cauldron];
            }
            contents.copy(other.contents);
            spells = other.spells;
            for (int spell = 0; spell < MOST_SPELLS; spell++) {
                texts[spell] = other.texts[spell];
                cooked[spell] = other.cooked[spell];
            }
            cookedSoFar = other.cookedSoFar;
            storesSoFar = other.storesSoFar;
        }

        int setUp(boolean ofBroth, int lowest, int highest) {
            int cauldron = cauldrons;
            if (cauldron < 0 || cauldron >= MOST_CAULDRONS) {
                return NOWHERE;
            }
            cauldrons++;
            isBroth[cauldron] = ofBroth;
            low[cauldron] = lowest;
            high[cauldron] = highest;
            contents.many[cauldron] = Math.max(lowest, Math.min(highest, 0));
            contents.much[cauldron] = 0.0f;
            storesIn[cauldron] = 0;
            return cauldron;
        }

        boolean holds(int cauldron, long many) {
            return many >= low[cauldron] && many <= high[cauldron];
        }

        int cutContent(int cauldron) {
            return contents.cut(isBroth[cauldron], cauldron);
        }

        int cauldronsOfBroth() {
            int count = 0;
            for (int cauldron = 0; cauldron < cauldrons; cauldron++) {
                if (isBroth[cauldron]) {
                    count++;
                }
            }
            return count;
        }

        int allDrams() {
            int sum = 0;
            for (int cauldron = 0; cauldron < cauldrons; cauldron++) {
                if (!isBroth[cauldron]) {
                    sum += contents.many[cauldron];
                }
            }
            return sum;
        }

        Spell spellAt(int spell) {
            return spell >= 0 && spell < spells && spell < MOST_SPELLS ? texts[spell] : null;
        }

        int putDown(Spell text) {
            int spell = spells;
            if (spell < 0 || spell >= MOST_SPELLS) {
                return NOWHERE;
            }
            spells++;
            texts[spell] = text;
            cooked[spell] = 0;
            return spell;
        }

        void strikeOut(int spell) {
            for (int later = Math.max(spell, 0); later < MOST_SPELLS - 1; later++) {
                texts[later] = texts[later + 1];
                cooked[later] = cooked[later + 1];
            }
            spells--;
        }

        void settle(int spell, Cooking cooking) {
            contents.copy(cooking.now);
            for (int cauldron = 0; cauldron < MOST_CAULDRONS; cauldron++) {
                storesIn[cauldron] += cooking.storesIn[cauldron];
                storesSoFar += cooking.storesIn[cauldron];
            }
            cooked[spell]++;
            cookedSoFar++;
        }

        int spellsThat(int kind, int cauldron) {
            int count = 0;
            for (int spell = 0; spell < spells; spell++) {
                Spell text = spellAt(spell);
                if (text != null && text.lastAhead(kind, cauldron, text.tokens) != NOWHERE) {
                    count++;
                }
            }
            return count;
        }

        int spellsAhead(int spell) {
            int count = 0;
            for (int other = 0; other < spells; other++) {
                if (comesAhead(other, spell)) {
                    count++;
                }
            }
            return count;
        }

        private boolean comesAhead(int first, int second) {
            Spell one = spellAt(first);
            Spell two = spellAt(second);
            if (one == null || two == null) {
                return false;
            }
            if (one.tokens != two.tokens) {
                return one.tokens < two.tokens;
            }
            if (one.stores != two.stores) {
                return one.stores > two.stores;
            }
            return first < second;
        }
    }

    /** A ring of books, made once, so that a change makes no object. */
    private static final class History {
        private final Book[] books = new Book[MOST_CHANGES];
        private int next;
        int changes;

        History() {
            for (int index = 0; index < MOST_CHANGES; index++) {
                books[index] = new Book();
            }
        }

        void remember(Book book) {
            books[next].copy(book);
            next = next + 1 < MOST_CHANGES ? next + 1 : 0;
            changes = Math.min(changes + 1, MOST_CHANGES);
        }

        void giveBack(Book book) {
            next = next > 0 ? next - 1 : MOST_CHANGES - 1;
            book.copy(books[next]);
            changes--;
        }

        void forget() {
            changes = 0;
        }
    }

    /** The reason that was kept last. */
    private static final class Refusal {
        boolean isKept;
        int reason;
        int detail;
        boolean hasCause;
        int cause;
        int causeDetail;

        void keep(int keptReason, int keptDetail) {
            isKept = true;
            reason = keptReason;
            detail = keptDetail;
            hasCause = false;
        }

        void keepWithCause(int keptReason, int keptDetail, int keptCause, int keptCauseDetail) {
            keep(keptReason, keptDetail);
            hasCause = true;
            cause = keptCause;
            causeDetail = keptCauseDetail;
        }
    }

    /** A text as its tokens, with the places of the tokens that laid the spoons which each one finds. */
    private static final class Spell {
        final char[] text;
        final int tokens;
        final int stores;
        final int mostSpoons;
        final char[] firsts;
        final int[] kinds;
        final int[] values;
        final int[] parts;
        final int[] lastParts;

        Spell(Reader reader, char[] input, int length) {
            text = new char[Math.max(0, Math.min(length, input.length))];
            System.arraycopy(input, 0, text, 0, text.length);
            tokens = Math.max(0, Math.min(reader.tokens, MOST_TOKENS));
            stores = reader.stores;
            mostSpoons = reader.mostSpoons;
            firsts = reader.firsts.clone();
            kinds = reader.kinds.clone();
            values = reader.values.clone();
            parts = reader.parts.clone();
            lastParts = reader.lastParts.clone();
        }

        /** The place of the last token of a kind that tells the cauldron, ahead of a place. */
        int lastAhead(int kind, int cauldron, int place) {
            for (int ahead = Math.min(place, tokens) - 1; ahead >= 0; ahead--) {
                if (kinds[ahead] == kind && values[ahead] == cauldron) {
                    return ahead;
                }
            }
            return NOWHERE;
        }
    }

    /** Reads a text character by character; its rows are used again for each text. */
    private static final class Reader {
        int tokens;
        int stores;
        int mostSpoons;
        final char[] firsts = new char[MOST_TOKENS];
        final int[] kinds = new int[MOST_TOKENS];
        final int[] values = new int[MOST_TOKENS];
        final int[] parts = new int[MOST_TOKENS];
        final int[] lastParts = new int[MOST_TOKENS];
        private final int[] spoonPlaces = new int[MOST_SPOONS];
        private int spoons;
        private boolean awaitsLetter;
        private boolean awaitsDigit;

        /** The error position of a text, or NOWHERE if it is well-formed. */
        int errorIn(char[] text, int length) {
            tokens = 0;
            stores = 0;
            mostSpoons = 0;
            spoons = 0;
            awaitsLetter = false;
            awaitsDigit = false;
            int end = Math.min(length, text.length);
            for (int index = 0; index < end; index++) {
                if (!fits(text[index])) {
                    return index;
                }
            }
            return stores > 0 && spoons == 0 && !awaitsLetter ? NOWHERE : end;
        }

        /** The place of the first letter that tells a cauldron from this number on, or NOWHERE. */
        int placeBeyond(int cauldrons) {
            for (int place = 0; place < tokens && place < MOST_TOKENS; place++) {
                if ((kinds[place] == TAKE || kinds[place] == STORE) && values[place] >= cauldrons) {
                    return place;
                }
            }
            return NOWHERE;
        }

        private boolean fits(char character) {
            if (awaitsLetter) {
                awaitsLetter = false;
                return isLetter(character) && fitsStore(character - 'a');
            }
            if (character >= '0' && character <= '9') {
                return fitsDigit(character);
            }
            awaitsDigit = false;
            if (isLetter(character)) {
                return fitsToken(TAKE, character, character - 'a', 0, 1);
            }
            switch (character) {
                case '+':
                    return fitsToken(ADD, character, 0, 2, 1);
                case '-':
                    return fitsToken(SUBTRACT, character, 0, 2, 1);
                case '*':
                    return fitsToken(MULTIPLY, character, 0, 2, 1);
                case '~':
                    return fitsToken(TO_BROTH, character, 0, 1, 1);
                case '!':
                    return fitsToken(TO_DRAMS, character, 0, 1, 1);
                case '=':
                    awaitsLetter = true;
                    return spoons > 0;
                default:
                    return false;
            }
        }

        private boolean isLetter(char character) {
            return character >= 'a' && character < 'a' + MOST_CAULDRONS;
        }

        private boolean fitsDigit(char character) {
            int digit = character - '0';
            int last = tokens - 1;
            if (awaitsDigit && last >= 0 && last < MOST_TOKENS) {
                awaitsDigit = false;
                values[last] = values[last] * 10 + digit;
                return true;
            }
            awaitsDigit = true;
            return fitsToken(PUT, character, digit, 0, 1);
        }

        private boolean fitsStore(int cauldron) {
            stores++;
            return fitsToken(STORE, '=', cauldron, 1, 0);
        }

        /** Each spoon that lies there asks for one more token at least, or it would lie there at the end. */
        private boolean fitsToken(int kind, char first, int value, int found, int laid) {
            int left = spoons - found + laid;
            if (spoons < found || left > MOST_SPOONS || tokens + 1 + left > MOST_TOKENS) {
                return false;
            }
            firsts[tokens] = first;
            kinds[tokens] = kind;
            values[tokens] = value;
            parts[tokens] = found > 0 ? spoonPlaces[spoons - found] : NOWHERE;
            lastParts[tokens] = found > 1 ? spoonPlaces[spoons - 1] : NOWHERE;
            if (laid > 0) {
                spoonPlaces[left - 1] = tokens;
            }
            spoons = left;
            mostSpoons = Math.max(mostSpoons, spoons);
            tokens++;
            return true;
        }
    }

    /** What both ways of cooking and of typing reckon alike, and bits, as no library call may tell them. */
    private static final class Numbers {
        static long ofDrams(int kind, long ahead, long last) {
            if (kind == ADD) {
                return ahead + last;
            }
            return kind == SUBTRACT ? ahead - last : ahead * last;
        }

        static float ofBroth(int kind, float ahead, float last) {
            if (kind == ADD) {
                return held(ahead + last);
            }
            return held(kind == SUBTRACT ? ahead - last : ahead * last);
        }

        static float toBroth(int many) {
            return held((float) many);
        }

        static int toDrams(float much) {
            return Math.max(-MOST_DRAMS, Math.min(MOST_DRAMS, (int) much));
        }

        /** -1 for too few drams, 1 for too many, and 0 for neither. */
        static int excess(long many) {
            if (many < -MOST_RECKONED) {
                return -1;
            }
            return many > MOST_RECKONED ? 1 : 0;
        }

        static long lowest(int kind, long aheadLow, long aheadHigh, long lastLow, long lastHigh) {
            if (kind == ADD) {
                return aheadLow + lastLow;
            }
            if (kind == SUBTRACT) {
                return aheadLow - lastHigh;
            }
            return Math.min(Math.min(aheadLow * lastLow, aheadLow * lastHigh),
                    Math.min(aheadHigh * lastLow, aheadHigh * lastHigh));
        }

        static long highest(int kind, long aheadLow, long aheadHigh, long lastLow, long lastHigh) {
            if (kind == ADD) {
                return aheadHigh + lastHigh;
            }
            if (kind == SUBTRACT) {
                return aheadHigh - lastLow;
            }
            return Math.max(Math.max(aheadLow * lastLow, aheadLow * lastHigh),
                    Math.max(aheadHigh * lastLow, aheadHigh * lastHigh));
        }

        static boolean differ(float one, float other) {
            return one != other || isNegative(one) != isNegative(other);
        }

        static int bitsOf(float number) {
            boolean isNegative = isNegative(number);
            double rest = isNegative ? -(double) number : (double) number;
            int sign = isNegative ? 1 << 31 : 0;
            if (rest == 0.0) {
                return sign;
            }
            int exponent = exponentOf(rest, -126);
            double scaled = scale(rest, exponent);
            if (scaled < 1.0) {
                return sign | (int) (scaled * 8388608.0);
            }
            return sign | (exponent + 127) << 23 | (int) ((scaled - 1.0) * 8388608.0);
        }

        static long longBitsOf(double number) {
            boolean isNegative = isNegative(number);
            double rest = isNegative ? -number : number;
            long sign = isNegative ? 1L << 63 : 0L;
            if (rest == 0.0) {
                return sign;
            }
            int exponent = exponentOf(rest, -1022);
            double scaled = scale(rest, exponent);
            if (scaled < 1.0) {
                return sign | (long) (scaled * 4503599627370496.0);
            }
            return sign | (long) (exponent + 1023) << 52 | (long) ((scaled - 1.0) * 4503599627370496.0);
        }

        private static float held(float much) {
            if (much < -9999.0f) {
                return -9999.0f;
            }
            return much > 9999.0f ? 9999.0f : much;
        }

        /** A zero below zero is told by what it divides to, which is an infinity and never NaN. */
        private static boolean isNegative(double number) {
            return number < 0.0 || number == 0.0 && 1.0 / number < 0.0;
        }

        /** The power of two of the first binary digit, but not below the lowest one that there is. */
        private static int exponentOf(double number, int lowest) {
            int exponent = 0;
            double rest = number;
            while (rest >= 2.0 && exponent < 1023) {
                rest = rest / 2.0;
                exponent++;
            }
            while (rest < 1.0 && exponent > lowest) {
                rest = rest * 2.0;
                exponent--;
            }
            return exponent;
        }

        private static double scale(double number, int exponent) {
            double scaled = number;
            for (int power = exponent; power > 0; power--) {
                scaled = scaled / 2.0;
            }
            for (int power = exponent; power < 0; power++) {
                scaled = scaled * 2.0;
            }
            return scaled;
        }
    }

    /** Types a spell token by token: the spoons are told by kind and bounds. */
    private static final class Typing {
        int faultAt;
        int stores;
        final boolean[] storeIsBroth = new boolean[MOST_TOKENS];
        final long[] storeLow = new long[MOST_TOKENS];
        final long[] storeHigh = new long[MOST_TOKENS];
        private final boolean[] isBroth = new boolean[MOST_SPOONS];
        private final long[] low = new long[MOST_SPOONS];
        private final long[] high = new long[MOST_SPOONS];
        private int spoons;

        boolean passes(Spell spell, Book book) {
            spoons = 0;
            stores = 0;
            faultAt = NOWHERE;
            for (int place = 0; place < spell.tokens; place++) {
                if (!passesToken(spell.kinds[place], spell.values[place], book)) {
                    faultAt = place;
                    return false;
                }
            }
            return true;
        }

        private boolean passesToken(int kind, int value, Book book) {
            switch (kind) {
                case TAKE:
                    return value >= 0 && value < MOST_CAULDRONS
                            && lay(book.isBroth[value], book.low[value], book.high[value]);
                case PUT:
                    return lay(false, value, value);
                case TO_BROTH:
                    return passesCast(true);
                case TO_DRAMS:
                    return passesCast(false);
                case STORE:
                    return value >= 0 && value < MOST_CAULDRONS && passesStore(value, book);
                default:
                    return passesReckoning(kind);
            }
        }

        private boolean lay(boolean ofBroth, long lowest, long highest) {
            if (spoons < 0 || spoons >= MOST_SPOONS) {
                return false;
            }
            isBroth[spoons] = ofBroth;
            low[spoons] = lowest;
            high[spoons] = highest;
            spoons++;
            return true;
        }

        private boolean passesCast(boolean toBroth) {
            int last = spoons - 1;
            if (last < 0 || last >= MOST_SPOONS || isBroth[last] == toBroth) {
                return false;
            }
            isBroth[last] = toBroth;
            low[last] = -MOST_DRAMS;
            high[last] = MOST_DRAMS;
            return true;
        }

        private boolean passesReckoning(int kind) {
            int last = spoons - 1;
            int ahead = spoons - 2;
            if (ahead < 0 || last >= MOST_SPOONS || isBroth[ahead] != isBroth[last]) {
                return false;
            }
            spoons--;
            if (isBroth[ahead]) {
                return true;
            }
            long lowest = Numbers.lowest(kind, low[ahead], high[ahead], low[last], high[last]);
            long highest = Numbers.highest(kind, low[ahead], high[ahead], low[last], high[last]);
            low[ahead] = lowest;
            high[ahead] = highest;
            return Numbers.excess(lowest) == 0 && Numbers.excess(highest) == 0;
        }

        private boolean passesStore(int cauldron, Book book) {
            int last = spoons - 1;
            if (last < 0 || last >= MOST_SPOONS || stores < 0 || stores >= MOST_TOKENS) {
                return false;
            }
            spoons--;
            storeIsBroth[stores] = isBroth[last];
            storeLow[stores] = low[last];
            storeHigh[stores] = high[last];
            stores++;
            if (isBroth[last] != book.isBroth[cauldron]) {
                return false;
            }
            return isBroth[last] || book.holds(cauldron, low[last]) && book.holds(cauldron, high[last]);
        }
    }

    /** Types a spell store by store: each one is the whole of a tree, of which the parts are typed first. */
    private static final class TypingByStores {
        private final boolean[] isBroth = new boolean[MOST_TOKENS];
        private final long[] low = new long[MOST_TOKENS];
        private final long[] high = new long[MOST_TOKENS];

        boolean passes(Spell spell, Book book) {
            for (int place = 0; place < spell.tokens; place++) {
                if (spell.kinds[place] == STORE && !passesStore(spell, book, place)) {
                    return false;
                }
            }
            return true;
        }

        private boolean passesStore(Spell spell, Book book, int place) {
            int part = spell.parts[place];
            int cauldron = spell.values[place];
            if (!passesPart(spell, book, part, 1) || cauldron < 0 || cauldron >= MOST_CAULDRONS) {
                return false;
            }
            if (isBroth[part] || book.isBroth[cauldron]) {
                return isBroth[part] && book.isBroth[cauldron];
            }
            return book.low[cauldron] <= low[part] && high[part] <= book.high[cauldron];
        }

        /** A part stands ahead of its whole, so a text's length keeps the depth low. */
        private boolean passesPart(Spell spell, Book book, int place, int depth) {
            if (place < 0 || place >= spell.tokens || depth > MOST_TOKENS) {
                return false;
            }
            int kind = spell.kinds[place];
            int value = spell.values[place];
            if (kind == TAKE) {
                return passesTake(book, place, value);
            }
            if (kind == PUT) {
                return tellsDrams(place, value, value);
            }
            int part = spell.parts[place];
            if (kind == STORE || !passesPart(spell, book, part, depth + 1)) {
                return false;
            }
            if (kind == TO_BROTH || kind == TO_DRAMS) {
                return passesCast(place, part, kind == TO_BROTH);
            }
            int last = spell.lastParts[place];
            return passesPart(spell, book, last, depth + 1) && passesReckoning(kind, place, part, last);
        }

        private boolean passesTake(Book book, int place, int cauldron) {
            if (cauldron < 0 || cauldron >= MOST_CAULDRONS) {
                return false;
            }
            if (book.isBroth[cauldron]) {
                return tellsBroth(place);
            }
            return tellsDrams(place, book.low[cauldron], book.high[cauldron]);
        }

        private boolean passesCast(int place, int part, boolean toBroth) {
            if (isBroth[part] == toBroth) {
                return false;
            }
            return toBroth ? tellsBroth(place) : tellsDrams(place, -MOST_DRAMS, MOST_DRAMS);
        }

        private boolean passesReckoning(int kind, int place, int part, int last) {
            if (isBroth[part] || isBroth[last]) {
                return isBroth[part] && isBroth[last] && tellsBroth(place);
            }
            return tellsDrams(place,
                    Numbers.lowest(kind, low[part], high[part], low[last], high[last]),
                    Numbers.highest(kind, low[part], high[part], low[last], high[last]));
        }

        private boolean tellsBroth(int place) {
            isBroth[place] = true;
            return true;
        }

        private boolean tellsDrams(int place, long lowest, long highest) {
            isBroth[place] = false;
            low[place] = lowest;
            high[place] = highest;
            return Numbers.excess(lowest) == 0 && Numbers.excess(highest) == 0;
        }
    }

    /** Cooks a spell spoon by spoon in contents of its own, so that one that boils over changes nothing. */
    private static final class Cooking {
        final Contents now = new Contents();
        final int[] storesIn = new int[MOST_CAULDRONS];
        int boilsAt;
        int cause;
        int causeDetail;
        private final Contents before = new Contents();
        private final boolean[] isBroth = new boolean[MOST_SPOONS];
        private final int[] many = new int[MOST_SPOONS];
        private final float[] much = new float[MOST_SPOONS];
        private int spoons;

        void begin(Book book) {
            now.copy(book.contents);
        }

        /** Cooks on from what is there now, and tells whether the spell does not boil over. */
        boolean goesOn(Spell spell, Book book) {
            before.copy(now);
            for (int cauldron = 0; cauldron < MOST_CAULDRONS; cauldron++) {
                storesIn[cauldron] = 0;
            }
            spoons = 0;
            boilsAt = NOWHERE;
            for (int place = 0; place < spell.tokens; place++) {
                if (!goesToken(spell.kinds[place], spell.values[place], book)) {
                    boilsAt = place;
                    return false;
                }
            }
            return true;
        }

        int changes() {
            return now.differences(before);
        }

        private boolean goesToken(int kind, int value, Book book) {
            switch (kind) {
                case TAKE:
                    return value >= 0 && value < MOST_CAULDRONS
                            && lay(book.isBroth[value], now.many[value], now.much[value]);
                case PUT:
                    return lay(false, value, 0.0f);
                case TO_BROTH:
                    return goesCast(true);
                case TO_DRAMS:
                    return goesCast(false);
                case STORE:
                    return value >= 0 && value < MOST_CAULDRONS && goesStore(value, book);
                default:
                    return goesReckoning(kind);
            }
        }

        private boolean lay(boolean ofBroth, int howMany, float howMuch) {
            if (spoons < 0 || spoons >= MOST_SPOONS) {
                return false;
            }
            isBroth[spoons] = ofBroth;
            many[spoons] = howMany;
            much[spoons] = howMuch;
            spoons++;
            return true;
        }

        private boolean goesCast(boolean toBroth) {
            int last = spoons - 1;
            if (last < 0 || last >= MOST_SPOONS) {
                return false;
            }
            if (isBroth[last] == toBroth) {
                return boil(KINDS_APART, NOWHERE);
            }
            isBroth[last] = toBroth;
            if (toBroth) {
                much[last] = Numbers.toBroth(many[last]);
            } else {
                many[last] = Numbers.toDrams(much[last]);
            }
            return true;
        }

        private boolean goesReckoning(int kind) {
            int last = spoons - 1;
            int ahead = spoons - 2;
            if (ahead < 0 || last >= MOST_SPOONS) {
                return false;
            }
            if (isBroth[ahead] != isBroth[last]) {
                return boil(KINDS_APART, NOWHERE);
            }
            spoons--;
            if (isBroth[ahead]) {
                much[ahead] = Numbers.ofBroth(kind, much[ahead], much[last]);
                return true;
            }
            long result = Numbers.ofDrams(kind, many[ahead], many[last]);
            if (Numbers.excess(result) != 0) {
                return boil(OUT_OF_RECKONING, Numbers.excess(result));
            }
            many[ahead] = (int) result;
            return true;
        }

        private boolean goesStore(int cauldron, Book book) {
            int last = spoons - 1;
            if (last < 0 || last >= MOST_SPOONS) {
                return false;
            }
            if (isBroth[last] != book.isBroth[cauldron]) {
                return boil(KINDS_APART, cauldron);
            }
            if (isBroth[last]) {
                now.much[cauldron] = much[last];
            } else if (book.holds(cauldron, many[last])) {
                now.many[cauldron] = many[last];
            } else {
                return boil(DOES_NOT_HOLD, many[last]);
            }
            storesIn[cauldron]++;
            spoons--;
            return true;
        }

        private boolean boil(int reason, int detail) {
            cause = reason;
            causeDetail = detail;
            return false;
        }
    }

    /** Cooks a spell store by store: each one is the whole of a tree, of which the parts are reckoned first. */
    private static final class CookingByStores {
        private final boolean[] isBroth = new boolean[MOST_TOKENS];
        private final int[] many = new int[MOST_TOKENS];
        private final float[] much = new float[MOST_TOKENS];

        boolean goesWell(Spell spell, Book book) {
            for (int place = 0; place < spell.tokens; place++) {
                if (spell.kinds[place] == STORE && !goesStore(spell, book, place)) {
                    return false;
                }
            }
            return true;
        }

        /** What is in a cauldron behind a spell that went well, cut to an integer. */
        int leaves(Spell spell, Book book, int cauldron) {
            int store = spell.lastAhead(STORE, cauldron, spell.tokens);
            if (store == NOWHERE) {
                return book.cutContent(cauldron);
            }
            return isBroth[store] ? (int) much[store] : many[store];
        }

        private boolean goesStore(Spell spell, Book book, int place) {
            int part = spell.parts[place];
            int cauldron = spell.values[place];
            if (!goesPart(spell, book, part, 1) || cauldron < 0 || cauldron >= MOST_CAULDRONS) {
                return false;
            }
            if (isBroth[part] != book.isBroth[cauldron]) {
                return false;
            }
            if (isBroth[part]) {
                return givesBroth(place, much[part]);
            }
            return givesDrams(place, many[part]) && book.holds(cauldron, many[part]);
        }

        /** A part stands ahead of its whole, so a text's length keeps the depth low. */
        private boolean goesPart(Spell spell, Book book, int place, int depth) {
            if (place < 0 || place >= spell.tokens || depth > MOST_TOKENS) {
                return false;
            }
            int kind = spell.kinds[place];
            int value = spell.values[place];
            if (kind == TAKE) {
                return goesTake(spell, book, place, value);
            }
            if (kind == PUT) {
                return givesDrams(place, value);
            }
            int part = spell.parts[place];
            if (kind == STORE || !goesPart(spell, book, part, depth + 1)) {
                return false;
            }
            if (kind == TO_BROTH || kind == TO_DRAMS) {
                return goesCast(place, part, kind == TO_BROTH);
            }
            int last = spell.lastParts[place];
            return goesPart(spell, book, last, depth + 1) && goesReckoning(kind, place, part, last);
        }

        /** A store ahead of the token is done already, as the stores are done by their places. */
        private boolean goesTake(Spell spell, Book book, int place, int cauldron) {
            if (cauldron < 0 || cauldron >= MOST_CAULDRONS) {
                return false;
            }
            int store = spell.lastAhead(STORE, cauldron, place);
            if (book.isBroth[cauldron]) {
                return givesBroth(place, store == NOWHERE ? book.contents.much[cauldron] : much[store]);
            }
            return givesDrams(place, store == NOWHERE ? book.contents.many[cauldron] : many[store]);
        }

        private boolean goesCast(int place, int part, boolean toBroth) {
            if (isBroth[part] == toBroth) {
                return false;
            }
            return toBroth
                    ? givesBroth(place, Numbers.toBroth(many[part]))
                    : givesDrams(place, Numbers.toDrams(much[part]));
        }

        private boolean goesReckoning(int kind, int place, int part, int last) {
            if (isBroth[part] != isBroth[last]) {
                return false;
            }
            if (isBroth[part]) {
                return givesBroth(place, Numbers.ofBroth(kind, much[part], much[last]));
            }
            return givesDrams(place, Numbers.ofDrams(kind, many[part], many[last]));
        }

        private boolean givesBroth(int place, float howMuch) {
            isBroth[place] = true;
            much[place] = howMuch;
            return true;
        }

        private boolean givesDrams(int place, long howMany) {
            isBroth[place] = false;
            many[place] = (int) howMany;
            return Numbers.excess(howMany) == 0;
        }
    }
}
