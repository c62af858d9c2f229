/** The sentences of the document on texts and the input: promises 7, 8, 15, 28, 34 and 35. */
final class TextSentences extends Sentences {
    TextSentences(Check check, Document document) {
        super(check, document);
    }

    @Override
    void all() {
        atMostFourSpells();
        tokensOfAText();
        noBlanks();
        letters();
        digits();
        signs();
        casts();
        stores();
        atMostFiveSpoons();
        spoonsThatTokensFind();
        errorPositionOfTooMany();
        errorPositionOfTheStart();
        errorPositionOfTheEnd();
        write();
        writeReturns();
        writeMalformed();
        writeRefusedFor1();
        writeRefusedFor5();
        erase();
        eraseOutside();
        token();
        tokenOutside();
        tokenOfNoPlace();
        tell();
        tellOutside();
        append();
        appendOutOfRange();
        appendToAFullInput();
        errorPosition();
        errorPositionOfNone();
    }

    private void setUp(int cauldrons) {
        for (int cauldron = 0; cauldron < cauldrons; cauldron++) {
            x.drams(-99, 99);
            x.pour(cauldron, 10 + cauldron);
        }
    }

    /** Text that lays so many spoons, casts the last one as often as told, and stores all of them. */
    private static String text(int spoons, int casts) {
        return "a".repeat(spoons) + "~".repeat(casts) + "=a".repeat(spoons);
    }

    private void atMostFourSpells() {
        term(7, "Spells", "There are at most 4 spells, numbered from 0.");
        setUp(1);
        outside("none at 0 at first", () -> x.types(0));
        for (int number = 0; number < 4; number++) {
            is("number " + number, number, () -> write("a=a"));
        }
        unchangedButKept(() -> refused("the fifth", () -> write("a=a"), 1, 4));
        outsideFrom(4, x::types);
        x.erase(1);
        is("there is room for one again", 3, () -> write("a=a"));
        refused("but not for two", () -> write("a=a"), 1, 4);
    }

    private void tokensOfAText() {
        term(7, "Spells", "The text of a spell consists of 1 to 24 tokens, one behind the other");
        setUp(1);
        malformed("", 0);
        malformed("7", 1);
        put("7=a");
        is("fewest tokens", 2, () -> x.spellOf(0, 0));
        put("7=a".repeat(12));
        is("most tokens", 24, () -> x.spellOf(0, 0));
        malformed("7=a".repeat(12) + "7=a", 36);
        malformed("7=a".repeat(12) + "~", 36);
        put(text(1, 22));
        is("most tokens with casts", 24, () -> x.spellOf(0, 0));
        malformed(text(1, 23), 23);
        put(text(1, 21));
        is("one less", 23, () -> x.spellOf(0, 0));
        put("12=a".repeat(12));
        is("most characters", 48, () -> x.tell(0));
        malformed("12=a".repeat(12) + "12=a", 48);
    }

    private void noBlanks() {
        term(7, "Spells", ", without blanks: ");
        setUp(1);
        malformed(" 7=a", 0);
        malformed("7 =a", 1);
        malformed("7= a", 2);
        malformed("7=a ", 3);
        malformed("1 2=a", 1);
        malformed(" ", 0);
    }

    private void letters() {
        term(7, "Spells", "a letter from a to f takes what is in this cauldron onto a new spoon");
        setUp(6);
        for (int number = 0; number < 6; number++) {
            int cauldron = number;
            put((char) ('a' + number) + "=a");
            is("cauldron " + number, 10 + cauldron, () -> x.would(0, 0));
            is("it is still there", 10 + cauldron, () -> x.cauldronOf(cauldron, 3));
        }
        for (String wrong : new String[] {"g", "`", "A", "F", "z", "@", "G"}) {
            malformed(wrong + "=a", 0);
        }
        put("ab+=c");
        is("each on a new one", 2, () -> x.spellOf(0, 2));
    }

    private void becomes(String text, int due) {
        put(text);
        is(text, due, () -> x.would(0, 0));
    }

    private void digits() {
        term(7, "Spells", "; one or two digits put as many drams onto a new spoon, as many digits as can be");
        setUp(1);
        becomes("0=a", 0);
        becomes("9=a", 9);
        becomes("00=a", 0);
        becomes("05=a", 5);
        becomes("10=a", 10);
        becomes("99=a", 99);
        becomes("123-=a", 9);
        is("three digits are two tokens", 4, () -> x.spellOf(0, 0));
        becomes("1234-=a", -22);
        is("four digits, too", 4, () -> x.spellOf(0, 0));
        becomes("12345-+=a", 41);
        is("five digits are three", 6, () -> x.spellOf(0, 0));
        becomes("1=a2=a", 2);
        becomes("1a-2+=a", -7);
        malformed("/=a", 0);
        malformed(":=a", 0);
    }

    private void signs() {
        term(7, "Spells", "; \"+\", \"-\" and \"*\" add the last spoon to the one ahead of it, subtract it from that"
                + " one, or multiply both, and the last spoon is gone");
        setUp(1);
        becomes("074+=a", 11);
        becomes("074-=a", 3);
        becomes("044-7-=a", -7);
        becomes("074*=a", 28);
        is("two spoons", 2, () -> x.spellOf(0, 2));
        becomes("01023-*=a", -1);
        is("three spoons", 3, () -> x.spellOf(0, 2));
        becomes("0102-3*=a", -3);
        is("one is gone ahead of the next", 2, () -> x.spellOf(0, 2));
        malformed("01/=a", 2);
        malformed("01,=a", 2);
        malformed("0102/=a", 4);
        malformed("0102)=a", 4);
    }

    private void casts() {
        term(7, "Spells", "; \"~\" casts the last spoon to broth, \"!\" casts it to drams");
        setUp(1);
        x.broth();
        put("0307~=b=a");
        is("only the last one", 2, () -> x.cook(0));
        is("to broth", 7.0f, () -> x.cups(1));
        is("not the one ahead", 3, () -> x.cauldronOf(0, 3));
        put("b4~+!=a");
        is("to drams", 11, () -> x.would(0, 0));
        is("the spoons stay as many", 2, () -> x.spellOf(0, 2));
        malformed("7\"=a", 1);
        malformed("7}=a", 1);
    }

    private void stores() {
        term(7, "Spells", "; \"=\" and a letter from a to f store the last spoon in this cauldron, and the spoon is"
                + " gone.");
        setUp(6);
        for (int number = 0; number < 6; number++) {
            int cauldron = number;
            put("7=" + (char) ('a' + number));
            is("cauldron " + number, 7, () -> x.would(0, cauldron));
            is("one token", 2, () -> x.spellOf(0, 0));
        }
        for (String wrong : new String[] {"g", "`", "A", "1", "=", " ", "~"}) {
            malformed("7=" + wrong, 2);
        }
        malformed("7=", 2);
        malformed("7a=b", 4);
        put("0102=a=b");
        is("the last one", 2, () -> x.would(0, 0));
        is("then the one ahead of it", 1, () -> x.would(0, 1));
    }

    private void atMostFiveSpoons() {
        term(7, "Spells", "At most 5 spoons lie there.");
        setUp(1);
        put("aaaaa++++=a");
        is("five of them", 5, () -> x.spellOf(0, 2));
        malformed("aaaaaa+++++=a", 5);
        put("1234567890----=a");
        is("five of digits", 5, () -> x.spellOf(0, 2));
        malformed("12345678901", 10);
        put("aaaaa=aa=a+++=a");
        is("a sixth one when one is gone", 5, () -> x.spellOf(0, 2));
        malformed("aaaaa=aaa", 8);
        put("aaaaa~!~!=a+++=a");
        is("casts need no other one", 5, () -> x.spellOf(0, 2));
        put("a=a");
        is("one alone", 1, () -> x.spellOf(0, 2));
    }

    private void spoonsThatTokensFind() {
        term(7, "Spells", "Each token finds as many spoons as it needs, at the end none lies there, and there is a"
                + " store in the text.");
        setUp(1);
        for (String sign : new String[] {"+", "-", "*"}) {
            malformed(sign, 0);
            malformed("a" + sign, 1);
            malformed("a=a" + sign, 3);
            put("aa" + sign + "=a");
        }
        for (String sign : new String[] {"~", "!", "=", "=a"}) {
            malformed(sign, 0);
            malformed("a=a" + sign, 3);
        }
        put("a~=a");
        malformed("a", 1);
        malformed("aa=a", 4);
        malformed("aa=aa", 5);
        malformed("aa+", 3);
        malformed("a~!", 3);
        malformed("a=aaa+", 6);
    }

    private void errorPositionOfTooMany() {
        term(35, "Spells", "The error position of a text that is malformed is the smallest index k such that no text"
                + " of a spell starts with the first k + 1 characters of it");
        setUp(1);
        for (int spoons = 1; spoons <= 5; spoons++) {
            if (spoons > 2) {
                anew();
                setUp(1);
            }
            put(text(spoons, 24 - 2 * spoons));
            malformed(text(spoons, 25 - 2 * spoons), 24 - spoons);
            malformed("a".repeat(spoons) + "~".repeat(24 - 2 * spoons) + "7", 24 - spoons);
            malformed("a".repeat(spoons) + "~".repeat(23 - 2 * spoons) + "7", 23 - spoons);
            malformed("a".repeat(spoons) + "~".repeat(24 - 2 * spoons), 24 - spoons);
        }
        anew();
        setUp(1);
        put("aa" + "~".repeat(20) + "+=a");
        malformed("aa" + "~".repeat(20) + "+~", 23);
        malformed("a" + "~".repeat(21) + "7", 22);
        put("a" + "~".repeat(20) + "7+=a");
    }

    private void errorPositionOfTheStart() {
        term(35, "Spells", "the smallest index k such that no text of a spell starts with the first k + 1 characters");
        setUp(1);
        malformed("?", 0);
        malformed("??", 0);
        malformed("a?=a", 1);
        malformed("a=?a", 2);
        malformed("a=a?", 3);
        malformed("a==a", 2);
        malformed("1234567890" + "1", 10);
        malformed("7=a".repeat(11) + "71", 35);
        malformed("7=a".repeat(11) + "712", 35);
        malformed("7=a".repeat(11) + "7~", 34);
        malformed("7=a".repeat(11) + "71=aa", 37);
        malformed("a".repeat(60), 5);
        malformed("12=a".repeat(15), 48);
    }

    private void errorPositionOfTheEnd() {
        term(35, "Spells", "; if there is no such index, it is the length of the text.");
        setUp(1);
        malformed("", 0);
        malformed("7", 1);
        malformed("71", 2);
        malformed("7=", 2);
        malformed("7=a7=", 5);
        malformed("7=af", 4);
        malformed("1234567890", 10);
        malformed("12=a".repeat(11) + "12", 46);
        malformed("12=a".repeat(11) + "12=", 47);
        put("12=a".repeat(11) + "12=a");
    }

    private void write() {
        promise(7, "Writes a spell, the text of which is the input. The input is empty afterwards, whatever happens.");
        setUp(1);
        type("a1+=");
        is("the input", 4, () -> x.account(8));
        type("a");
        is("is written", 0, x::write);
        is("and empty then", 0, () -> x.account(8));
        is("the text of the spell", 5, () -> x.tell(0));
        same("is what was the input", "a1+=a", line());
        malformed("a=", 2);
        refused("no cauldron", () -> write("b=b"), 5, 0);
        is("empty when it is refused for that", 0, () -> x.account(8));
        for (int spell = 1; spell < 4; spell++) {
            write("a=a");
        }
        refused("no room", () -> write("a=a"), 1, 4);
        is("empty when it is refused for that, too", 0, () -> x.account(8));
        type("a".repeat(60));
        illegal("a full input", x::write);
        is("is empty then", 1, () -> x.append('b'));
    }

    private void writeReturns() {
        promise(7, "Returns the number of the spell.");
        setUp(1);
        for (int spell = 0; spell < 4; spell++) {
            is("the next one", spell, () -> write("7=a"));
        }
        x.erase(0);
        is("the last one", 3, () -> write("8=a"));
        x.undo();
        is("the last one again", 3, () -> write("9=a"));
    }

    private void writeMalformed() {
        promise(7, "Throws `IllegalArgumentException` if the input is malformed; the error position is then kept");
        setUp(1);
        write("a=a");
        unchangedButKept(() -> {
            malformed("", 0);
            malformed("b=c~", 3);
            malformed("a", 1);
        });
        noElement("no reason is kept", () -> x.reason(false, false));
        for (int spell = 1; spell < 4; spell++) {
            write("a=a");
        }
        malformed("f=fg", 3);
        noElement("malformed ahead of what is refused", () -> x.reason(false, false));
    }

    private void writeRefusedFor1() {
        promise(7, "Throws `UnsupportedOperationException` if it is refused for the reason 1, or 5");
        setUp(1);
        for (int spell = 0; spell < 4; spell++) {
            write("a=a");
        }
        unchangedButKept(() -> {
            refused("the fifth", () -> write("a=a"), 1, 4);
            refused("the fifth, ahead of no cauldron", () -> write("f=f"), 1, 4);
        });
        noElement("no error position is kept", x::errorPosition);
        x.erase(3);
        refused("no cauldron, but room", () -> write("f=f"), 5, 0);
        is("the fourth", 3, () -> write("a=a"));
    }

    private void writeRefusedFor5() {
        promise(7, "or 5; the reason is then kept");
        refused("without cauldrons", () -> write("12~=f"), 5, 2);
        setUp(2);
        x.broth();
        unchangedButKept(() -> {
            refused("takes from the first one that is not", () -> write("d=a"), 5, 0);
            refused("takes from the last one", () -> write("12a+f-=a"), 5, 3);
            refused("stores in the first one that is not", () -> write("12a+=d"), 5, 3);
            refused("stores in the last one", () -> write("12=f"), 5, 1);
            refused("the first place of several", () -> write("12=aae+d+=f"), 5, 3);
        });
        noElement("no error position is kept", x::errorPosition);
        is("the last one that there is", 0, () -> write("c!=b"));
        x.drams(0, 0);
        is("it may be set up later", 1, () -> write("d=a"));
    }

    private void erase() {
        promise(8, "Erases a spell; the numbers of the later ones become 1 less.",
                "Returns how many spells there are then.");
        setUp(1);
        write("1=a");
        write("1=a2=a");
        write("1=a2=a3=a");
        write("1=a2=a3=a4=a");
        x.cook(2);
        x.cook(3);
        x.cook(3);
        is("one of four", 3, () -> x.erase(1));
        is("the one ahead stays", 2, () -> x.spellOf(0, 0));
        is("the later one", 6, () -> x.spellOf(1, 0));
        is("was cooked once", 1, () -> x.spellOf(1, 4));
        is("the last one", 8, () -> x.spellOf(2, 0));
        is("was cooked twice", 2, () -> x.spellOf(2, 4));
        outside("there is no more", () -> x.spellOf(3, 0));
        is("the last one of three", 2, () -> x.erase(2));
        is("the first one of two", 1, () -> x.erase(0));
        is("the later one", 6, () -> x.spellOf(0, 0));
        is("the only one", 0, () -> x.erase(0));
        is("a new one", 0, () -> write("a=a"));
        is("was not cooked", 0, () -> x.spellOf(0, 4));
    }

    private void eraseOutside() {
        promise(8, "Throws `IndexOutOfBoundsException` if there is no such spell");
        outside("none at all", () -> x.erase(0));
        setUp(1);
        write("1=a");
        write("2=a");
        unchanged(() -> outsideFrom(2, x::erase));
        is("the last one", 1, () -> x.erase(1));
        unchanged(() -> outsideFrom(1, x::erase));
    }

    private void token() {
        promise(15, "Returns the first character of a token of a spell.", "- `place`: its place, from 0",
                "Returns the character.");
        setUp(2);
        write("07a+12*~!3-=b9=a");
        String firsts = "0a+1*~!3-=9=";
        for (int number = 0; number < firsts.length(); number++) {
            int place = number;
            is("place " + place, firsts.charAt(place), () -> x.token(0, place));
        }
        write("7=a8=a");
        is("a later spell", '8', () -> x.token(1, 2));
    }

    private void tokenOutside() {
        promise(15, "Throws `IndexOutOfBoundsException` if there is no such spell");
        outside("none at all", () -> x.token(0, 0));
        setUp(1);
        write("7=a");
        is("the last one", '7', () -> x.token(0, 0));
        unchanged(() -> {
            outsideFrom(1, spell -> x.token(spell, 0));
            outsideFrom(1, spell -> x.token(spell, 99));
        });
    }

    private void tokenOfNoPlace() {
        promise(15, "Throws `NoSuchElementException` if there is no such place");
        setUp(1);
        write("12=a");
        write("7=a".repeat(12));
        is("the last of 2", '=', () -> x.token(0, 1));
        is("the last of 24", '=', () -> x.token(1, 23));
        unchanged(() -> {
            noElementFrom(2, place -> x.token(0, place));
            noElementFrom(24, place -> x.token(1, place));
        });
    }

    private void tell() {
        promise(28, "Writes a spell as a text, in place of the line before, as it was in the input.",
                "Returns the length of the line.");
        setUp(2);
        write("07a+=b");
        write("7=a");
        write("12=b".repeat(12));
        is("the longest", 48, () -> x.tell(2));
        same("as it was", "12=b".repeat(12), line());
        is("the shortest", 3, () -> x.tell(1));
        same("in place of the line before", "7=a", line());
        is("two digits", 6, () -> x.tell(0));
        same("as they were", "07a+=b", line());
        x.erase(0);
        same("erased, but the line stays", "07a+=b", line());
    }

    private void tellOutside() {
        promise(28, "Throws `IndexOutOfBoundsException` if there is no such spell");
        outside("none at all", () -> x.tell(0));
        setUp(1);
        write("7=a");
        write("12=a");
        is("the last one", 4, () -> x.tell(1));
        unchanged(() -> outsideFrom(2, x::tell));
        x.erase(0);
        unchanged(() -> outsideFrom(1, x::tell));
    }

    private void append() {
        promise(34, "Appends a character to the input.", "Returns the new length of the input.",
                "- `character`: the character, with a code from 32 to 126");
        setUp(1);
        is("the first", 1, () -> x.append('7'));
        is("the second", 2, () -> x.append('='));
        is("the third", 3, () -> x.append('a'));
        is("there are three", 3, () -> x.account(8));
        is("which are a text", 0, x::write);
        is("the first again", 1, () -> x.append((char) 32));
        is("the last code", 2, () -> x.append((char) 126));
        is("no change", 3, () -> x.account(9));
    }

    private void appendOutOfRange() {
        promise(34, "Throws `IllegalArgumentException` if the character code is out of range");
        is("code 32", 1, () -> x.append((char) 32));
        is("code 126", 2, () -> x.append((char) 126));
        unchanged(() -> {
            for (int code : new int[] {31, 127, 0, 128, 256 + 32, 256 + 97, 65535 - 31, 65535, 65536 - 159}) {
                illegal("code " + code, () -> x.append((char) code));
            }
        });
        type("a".repeat(58));
        illegal("ahead of a full input, code 31", () -> x.append((char) 31));
        illegal("ahead of a full input, code 127", () -> x.append((char) 127));
    }

    private void appendToAFullInput() {
        promise(34, "Throws `IllegalStateException` if the input has 60 characters");
        type("7".repeat(59));
        is("the sixtieth", 60, () -> x.append('7'));
        unchanged(() -> {
            is("the sixty-first", "throws IllegalStateException", () -> x.append('7'));
            is("any other", "throws IllegalStateException", () -> x.append(' '));
        });
        is("there are sixty", 60, () -> x.account(8));
        illegal("they are no text", x::write);
        is("by the place of the sixth number", 10, x::errorPosition);
        is("then it is empty", 1, () -> x.append('7'));
    }

    private void errorPosition() {
        promise(35, "Returns the error position that was kept last; it stays until the next one is kept.",
                "Returns the error position.");
        setUp(1);
        malformed("", 0);
        is("0 is one, too", 0, x::errorPosition);
        malformed("7=ab", 4);
        is("it stays when it is asked for", 4, x::errorPosition);
        write("7=a");
        is("it stays when a spell is written", 4, x::errorPosition);
        refused("no cauldron", () -> write("7=c"), 5, 1);
        is("it stays when one is refused", 4, x::errorPosition);
        x.undo();
        x.save();
        x.restore();
        is("it stays behind undo and restore", 4, x::errorPosition);
        malformed("7=?", 2);
    }

    private void errorPositionOfNone() {
        promise(35, "Throws `NoSuchElementException` if none was kept");
        unchanged(() -> noElement("a new object", x::errorPosition));
        setUp(1);
        write("7=a");
        noElement("a text that is not malformed", x::errorPosition);
        refused("no cauldron", () -> write("7=b"), 5, 1);
        noElement("one that is refused", x::errorPosition);
        type("7=?");
        noElement("input that is not written yet", x::errorPosition);
        illegal("it is malformed", x::write);
        is("one was kept", 2, x::errorPosition);
    }
}
