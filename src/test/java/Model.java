import java.util.ArrayDeque;
import java.util.ArrayList;
import java.util.Arrays;
import java.util.HashSet;
import java.util.List;
import java.util.NoSuchElementException;
import java.util.Set;

/**
 * A second, plain program for the document: it keeps texts as they are, copies its whole state for each
 * change, and uses the Java library. ModelTest compares CauldronTypes with it, call by call.
 */
public final class Model {
    private static final class Cauldron {
        boolean broth;
        int low;
        int high;
        Number content;
        int stores;

        Cauldron copy() {
            Cauldron other = new Cauldron();
            other.broth = broth;
            other.low = low;
            other.high = high;
            other.content = content;
            other.stores = stores;
            return other;
        }
    }

    private record SpellText(String text, int cooked) {
    }

    private static final class State {
        final List<Cauldron> cauldrons = new ArrayList<>();
        final List<SpellText> spells = new ArrayList<>();
        int cooked;
        int stores;

        State copy() {
            State other = new State();
            for (Cauldron cauldron : cauldrons) {
                other.cauldrons.add(cauldron.copy());
            }
            other.spells.addAll(spells);
            other.cooked = cooked;
            other.stores = stores;
            return other;
        }
    }

    private record Boil(int place, int cause, int detail) {
    }

    private record Type(boolean broth, long low, long high) {
    }

    private State state = new State();
    private State saved;
    private final List<State> history = new ArrayList<>();
    private int[] refusal;
    private final StringBuilder input = new StringBuilder();
    private Integer error;
    private String line = "";
    private int boiled;

    private void change() {
        history.add(state.copy());
        if (history.size() > 6) {
            history.remove(0);
        }
    }

    private UnsupportedOperationException refuse(int... told) {
        refusal = told;
        return new UnsupportedOperationException();
    }

    private Cauldron at(int cauldron) {
        if (cauldron < 0 || cauldron >= state.cauldrons.size()) {
            throw new IndexOutOfBoundsException();
        }
        return state.cauldrons.get(cauldron);
    }

    private List<String> tokensAt(int spell) {
        if (spell < 0 || spell >= state.spells.size()) {
            throw new IndexOutOfBoundsException();
        }
        return tokensOf(state.spells.get(spell).text());
    }

    static List<String> tokensOf(String text) {
        List<String> tokens = new ArrayList<>();
        int index = 0;
        while (index < text.length()) {
            int end = index + 1;
            if (text.charAt(index) == '=') {
                end = Math.min(text.length(), index + 2);
            } else if (Character.isDigit(text.charAt(index)) && end < text.length()
                    && Character.isDigit(text.charAt(end))) {
                end++;
            }
            tokens.add(text.substring(index, end));
            index = end;
        }
        return tokens;
    }

    /** Spoons behind a token, or -1 if the token does not fit. */
    private static int spoonsBehind(String token, int spoons) {
        if (token.matches("[a-f]|[0-9]{1,2}")) {
            return spoons < 5 ? spoons + 1 : -1;
        }
        if (token.matches("[-+*]")) {
            return spoons >= 2 ? spoons - 1 : -1;
        }
        if (token.matches("[~!]")) {
            return spoons >= 1 ? spoons : -1;
        }
        return token.matches("=[a-f]") && spoons >= 1 ? spoons - 1 : -1;
    }

    private static final Set<Integer> ENDABLE = endable();

    /** From which states {tokens, spoons, whether stored} the end of a spell can be reached, by a search. */
    private static Set<Integer> endable() {
        Set<Integer> found = new HashSet<>();
        for (int start = 0; start < 25 * 6 * 2; start++) {
            ArrayDeque<Integer> open = new ArrayDeque<>(List.of(start));
            Set<Integer> seen = new HashSet<>(open);
            while (!open.isEmpty()) {
                int now = open.poll();
                int tokens = now / 12;
                int spoons = now / 2 % 6;
                if (spoons == 0 && now % 2 == 1 && tokens >= 1) {
                    found.add(start);
                    break;
                }
                for (String token : new String[] {"a", "+", "~", "=a"}) {
                    int then = spoonsBehind(token, spoons);
                    if (tokens < 24 && then >= 0) {
                        int next = (tokens + 1) * 12 + then * 2 + (token.equals("=a") ? 1 : now % 2);
                        if (seen.add(next)) {
                            open.add(next);
                        }
                    }
                }
            }
        }
        return found;
    }

    private static boolean startsSpell(String start) {
        int spoons = 0;
        int tokens = 0;
        int stored = 0;
        for (String token : tokensOf(start)) {
            String whole = token.equals("=") ? "=a" : token;
            spoons = spoonsBehind(whole, spoons);
            tokens++;
            if (spoons < 0 || tokens > 24) {
                return false;
            }
            stored = whole.startsWith("=") ? 1 : stored;
        }
        return ENDABLE.contains(tokens * 12 + spoons * 2 + stored);
    }

    private static boolean isSpell(String text) {
        List<String> tokens = tokensOf(text);
        int spoons = 0;
        boolean stored = false;
        for (String token : tokens) {
            spoons = spoonsBehind(token, spoons);
            if (spoons < 0) {
                return false;
            }
            stored |= token.startsWith("=");
        }
        return !tokens.isEmpty() && tokens.size() <= 24 && stored && spoons == 0;
    }

    static int errorOf(String text) {
        for (int end = 1; end <= text.length(); end++) {
            if (!startsSpell(text.substring(0, end))) {
                return end - 1;
            }
        }
        return text.length();
    }

    private static float hold(float cups) {
        return Math.max(-9999.0f, Math.min(9999.0f, cups));
    }

    /** Cooks in a list of contents; null if it goes well. */
    private Boil cookIn(List<String> tokens, List<Number> contents) {
        List<Number> spoons = new ArrayList<>();
        for (int place = 0; place < tokens.size(); place++) {
            String token = tokens.get(place);
            char first = token.charAt(0);
            if (first >= 'a') {
                if (first == '~') {
                    Number last = spoons.remove(spoons.size() - 1);
                    if (last instanceof Float) {
                        return new Boil(place, 7, -1);
                    }
                    spoons.add(hold(last.floatValue()));
                } else {
                    spoons.add(contents.get(first - 'a'));
                }
            } else if (Character.isDigit(first)) {
                spoons.add(Long.parseLong(token));
            } else if (first == '!') {
                Number last = spoons.remove(spoons.size() - 1);
                if (last instanceof Long) {
                    return new Boil(place, 7, -1);
                }
                spoons.add(Math.max(-99L, Math.min(99L, last.longValue())));
            } else if (first == '=') {
                int into = token.charAt(1) - 'a';
                Number last = spoons.remove(spoons.size() - 1);
                Cauldron cauldron = state.cauldrons.get(into);
                if (last instanceof Float != cauldron.broth) {
                    return new Boil(place, 7, into);
                }
                if (!cauldron.broth && (last.longValue() < cauldron.low || last.longValue() > cauldron.high)) {
                    return new Boil(place, 3, last.intValue());
                }
                contents.set(into, last);
            } else {
                Number last = spoons.remove(spoons.size() - 1);
                Number ahead = spoons.remove(spoons.size() - 1);
                if (last.getClass() != ahead.getClass()) {
                    return new Boil(place, 7, -1);
                }
                if (last instanceof Float) {
                    float x = ahead.floatValue();
                    float y = last.floatValue();
                    spoons.add(hold(first == '+' ? x + y : first == '-' ? x - y : x * y));
                } else {
                    long x = ahead.longValue();
                    long y = last.longValue();
                    long result = first == '+' ? x + y : first == '-' ? x - y : x * y;
                    if (Math.abs(result) > 1000000) {
                        return new Boil(place, 8, result < 0 ? -1 : 1);
                    }
                    spoons.add(result);
                }
            }
        }
        return null;
    }

    private List<Number> contents() {
        List<Number> contents = new ArrayList<>();
        for (Cauldron cauldron : state.cauldrons) {
            contents.add(cauldron.content);
        }
        return contents;
    }

    private static int differing(List<Number> ones, List<Number> others) {
        int count = 0;
        for (int index = 0; index < ones.size(); index++) {
            if (!ones.get(index).equals(others.get(index))) {
                count++;
            }
        }
        return count;
    }

    private static long[] extremes(long... numbers) {
        return new long[] {Arrays.stream(numbers).min().getAsLong(), Arrays.stream(numbers).max().getAsLong()};
    }

    /** The place of the fault, or -1; the types of the stores are added to a list. */
    private int typeFault(List<String> tokens, List<Type> stores) {
        List<Type> spoons = new ArrayList<>();
        for (int place = 0; place < tokens.size(); place++) {
            String token = tokens.get(place);
            char first = token.charAt(0);
            Type next;
            if (first >= 'a' && first <= 'f') {
                Cauldron cauldron = state.cauldrons.get(first - 'a');
                next = new Type(cauldron.broth, cauldron.low, cauldron.high);
            } else if (Character.isDigit(first)) {
                next = new Type(false, Long.parseLong(token), Long.parseLong(token));
            } else {
                Type last = spoons.remove(spoons.size() - 1);
                if (first == '~' || first == '!') {
                    if (last.broth() == (first == '~')) {
                        return place;
                    }
                    next = new Type(first == '~', -99, 99);
                } else if (first == '=') {
                    Cauldron cauldron = state.cauldrons.get(token.charAt(1) - 'a');
                    stores.add(last);
                    if (last.broth() != cauldron.broth
                            || !last.broth() && (last.low() < cauldron.low || last.high() > cauldron.high)) {
                        return place;
                    }
                    continue;
                } else {
                    Type ahead = spoons.remove(spoons.size() - 1);
                    if (ahead.broth() != last.broth()) {
                        return place;
                    }
                    long[] range = {0, 0};
                    if (!ahead.broth()) {
                        range = first == '+' ? extremes(ahead.low() + last.low(), ahead.high() + last.high())
                                : first == '-' ? extremes(ahead.low() - last.high(), ahead.high() - last.low())
                                : extremes(ahead.low() * last.low(), ahead.low() * last.high(),
                                        ahead.high() * last.low(), ahead.high() * last.high());
                    }
                    if (range[0] < -1000000 || range[1] > 1000000) {
                        return place;
                    }
                    next = new Type(ahead.broth(), range[0], range[1]);
                }
            }
            spoons.add(next);
        }
        return -1;
    }

    private void settle(int spell, List<String> tokens, List<Number> contents) {
        for (int index = 0; index < contents.size(); index++) {
            state.cauldrons.get(index).content = contents.get(index);
        }
        for (String token : tokens) {
            if (token.startsWith("=")) {
                state.cauldrons.get(token.charAt(1) - 'a').stores++;
                state.stores++;
            }
        }
        SpellText old = state.spells.get(spell);
        state.spells.set(spell, new SpellText(old.text(), old.cooked() + 1));
        state.cooked++;
    }

    private static void checkBounds(int low, int high) {
        if (low < -99 || low > 99 || high < -99 || high > 99 || low > high) {
            throw new IllegalArgumentException();
        }
    }

    private int setUp(boolean broth, int low, int high) {
        if (state.cauldrons.size() == 6) {
            throw refuse(1, 6);
        }
        change();
        Cauldron cauldron = new Cauldron();
        cauldron.broth = broth;
        cauldron.low = low;
        cauldron.high = high;
        long nearest = low;
        for (long many = low; many <= high; many++) {
            nearest = Math.abs(many) < Math.abs(nearest) ? many : nearest;
        }
        if (broth) {
            cauldron.content = 0.0f;
        } else {
            cauldron.content = nearest;
        }
        state.cauldrons.add(cauldron);
        return state.cauldrons.size() - 1;
    }

    public int drams(int low, int high) {
        checkBounds(low, high);
        return setUp(false, low, high);
    }

    public int broth() {
        return setUp(true, -99, 99);
    }

    public int pour(int cauldron, int many) {
        Cauldron found = at(cauldron);
        if (found.broth) {
            throw refuse(2, cauldron);
        }
        if (many < found.low || many > found.high) {
            throw refuse(3, many);
        }
        change();
        int before = found.content.intValue();
        found.content = (long) many;
        return before;
    }

    public int ladle(int cauldron, int hundredths) {
        Cauldron found = at(cauldron);
        if (Math.abs((long) hundredths) > 9999) {
            throw new IllegalArgumentException();
        }
        if (!found.broth) {
            throw refuse(4, cauldron);
        }
        change();
        int before = Float.floatToIntBits(found.content.floatValue());
        found.content = (float) hundredths / 100.0f;
        return before;
    }

    public int bounds(int cauldron, int low, int high) {
        Cauldron found = at(cauldron);
        checkBounds(low, high);
        if (found.broth) {
            throw refuse(2, cauldron);
        }
        int many = found.content.intValue();
        if (many < low || many > high) {
            throw refuse(3, many);
        }
        change();
        int before = typed();
        found.low = low;
        found.high = high;
        return typed() - before;
    }

    public int write() {
        String text = input.toString();
        input.setLength(0);
        if (!isSpell(text)) {
            error = errorOf(text);
            throw new IllegalArgumentException();
        }
        if (state.spells.size() == 4) {
            throw refuse(1, 4);
        }
        List<String> tokens = tokensOf(text);
        for (int place = 0; place < tokens.size(); place++) {
            char last = tokens.get(place).charAt(tokens.get(place).length() - 1);
            if (last >= 'a' && last <= 'f' && last - 'a' >= state.cauldrons.size()) {
                throw refuse(5, place);
            }
        }
        change();
        state.spells.add(new SpellText(text, 0));
        return state.spells.size() - 1;
    }

    public int erase(int spell) {
        tokensAt(spell);
        change();
        state.spells.remove(spell);
        return state.spells.size();
    }

    public int cook(int spell) {
        List<String> tokens = tokensAt(spell);
        List<Number> before = contents();
        List<Number> behind = contents();
        Boil boil = cookIn(tokens, behind);
        if (boil != null) {
            boiled++;
            throw refuse(6, boil.place(), boil.cause(), boil.detail());
        }
        change();
        settle(spell, tokens, behind);
        return differing(before, behind);
    }

    public int cookAll() {
        int typed = typed();
        if (typed == 0) {
            throw refuse(9, state.spells.size());
        }
        change();
        for (int spell = 0; spell < state.spells.size(); spell++) {
            if (types(spell)) {
                List<Number> behind = contents();
                if (cookIn(tokensAt(spell), behind) != null) {
                    throw new AssertionError("a spell that types boils over");
                }
                settle(spell, tokensAt(spell), behind);
            }
        }
        return typed;
    }

    private int spellsWith(String token) {
        int count = 0;
        for (SpellText spell : state.spells) {
            count += tokensOf(spell.text()).contains(token) ? 1 : 0;
        }
        return count;
    }

    public int cauldronOf(int cauldron, int what) {
        Cauldron found = at(cauldron);
        String letter = String.valueOf((char) ('a' + cauldron));
        return switch (what) {
            case 0 -> found.broth ? 1 : 0;
            case 1 -> found.broth ? -99 : found.low;
            case 2 -> found.broth ? 99 : found.high;
            case 3 -> found.content.intValue();
            case 4 -> found.stores;
            case 5 -> spellsWith(letter);
            case 6 -> spellsWith("=" + letter);
            default -> throw new IllegalArgumentException();
        };
    }

    public float cups(int cauldron) {
        if (!at(cauldron).broth) {
            throw new NoSuchElementException();
        }
        return at(cauldron).content.floatValue();
    }

    public int bits(int cauldron) {
        return Float.floatToIntBits(at(cauldron).content.floatValue());
    }

    public int spellOf(int spell, int what) {
        List<String> tokens = tokensAt(spell);
        int spoons = 0;
        int most = 0;
        int stores = 0;
        for (String token : tokens) {
            spoons = spoonsBehind(token, spoons);
            most = Math.max(most, spoons);
            stores += token.startsWith("=") ? 1 : 0;
        }
        return switch (what) {
            case 0 -> tokens.size();
            case 1 -> stores;
            case 2 -> most;
            case 3 -> types(spell) ? 1 : 0;
            case 4 -> state.spells.get(spell).cooked();
            default -> throw new IllegalArgumentException();
        };
    }

    public char token(int spell, int place) {
        List<String> tokens = tokensAt(spell);
        if (place < 0 || place >= tokens.size()) {
            throw new NoSuchElementException();
        }
        return tokens.get(place).charAt(0);
    }

    public boolean types(int spell) {
        return typeFault(tokensAt(spell), new ArrayList<>()) == -1;
    }

    public boolean typesAgain(int spell) {
        return types(spell);
    }

    public int fault(int spell) {
        if (types(spell)) {
            throw new NoSuchElementException();
        }
        return typeFault(tokensAt(spell), new ArrayList<>());
    }

    public int bound(int spell, int store, boolean isHigh) {
        List<Type> stores = new ArrayList<>();
        int fault = typeFault(tokensAt(spell), stores);
        if (fault != -1 || store < 0 || store >= stores.size() || stores.get(store).broth()) {
            throw new NoSuchElementException();
        }
        return (int) (isHigh ? stores.get(store).high() : stores.get(store).low());
    }

    public int typed() {
        int count = 0;
        for (int spell = 0; spell < state.spells.size(); spell++) {
            count += types(spell) ? 1 : 0;
        }
        return count;
    }

    public int would(int spell, int cauldron) {
        List<String> tokens = tokensAt(spell);
        at(cauldron);
        List<Number> behind = contents();
        if (cookIn(tokens, behind) != null) {
            throw new NoSuchElementException();
        }
        return behind.get(cauldron).intValue();
    }

    public int wouldAgain(int spell, int cauldron) {
        return would(spell, cauldron);
    }

    public int boils(int spell) {
        Boil boil = cookIn(tokensAt(spell), contents());
        if (boil == null) {
            throw new NoSuchElementException();
        }
        return boil.place();
    }

    public int lasts(int spell) {
        List<String> tokens = tokensAt(spell);
        List<Number> now = contents();
        for (int rounds = 0; rounds < 50; rounds++) {
            List<Number> next = new ArrayList<>(now);
            if (cookIn(tokens, next) != null || differing(now, next) == 0) {
                return rounds;
            }
            now = next;
        }
        return 50;
    }

    public int ranked(int place) {
        List<Integer> order = new ArrayList<>();
        for (int spell = 0; spell < state.spells.size(); spell++) {
            order.add(spell);
        }
        order.sort((one, other) -> spellOf(one, 0) != spellOf(other, 0)
                ? spellOf(one, 0) - spellOf(other, 0) : spellOf(other, 1) - spellOf(one, 1));
        if (place < 0 || place >= order.size()) {
            throw new NoSuchElementException();
        }
        return order.get(place);
    }

    public int widest() {
        int widest = -1;
        for (int index = state.cauldrons.size() - 1; index >= 0; index--) {
            Cauldron cauldron = state.cauldrons.get(index);
            if (!cauldron.broth && (widest < 0
                    || cauldron.high - cauldron.low >= at(widest).high - at(widest).low)) {
                widest = index;
            }
        }
        if (widest < 0) {
            throw new NoSuchElementException();
        }
        return widest;
    }

    public boolean isSafe() {
        for (int spell = 0; spell < state.spells.size(); spell++) {
            if (types(spell) && cookIn(tokensAt(spell), contents()) != null) {
                return false;
            }
        }
        return true;
    }

    public int tell(int spell) {
        tokensAt(spell);
        line = state.spells.get(spell).text();
        return line.length();
    }

    public int tellCauldron(int cauldron) {
        Cauldron found = at(cauldron);
        line = (char) ('a' + cauldron) + ":" + found.content.intValue()
                + (found.broth ? "~" : "[" + found.low + "," + found.high + "]");
        return line.length();
    }

    public char character(int index) {
        if (index < 0 || index >= line.length()) {
            throw new NoSuchElementException();
        }
        return line.charAt(index);
    }

    public long meanBits() {
        if (state.cauldrons.isEmpty()) {
            throw new ArithmeticException();
        }
        double sum = 0.0;
        for (Cauldron cauldron : state.cauldrons) {
            sum += cauldron.content.doubleValue();
        }
        return Double.doubleToLongBits(sum / state.cauldrons.size());
    }

    public float typedShare() {
        if (state.spells.isEmpty()) {
            throw new ArithmeticException();
        }
        return (float) typed() / (float) state.spells.size();
    }

    public int account(int account) {
        return switch (account) {
            case 0 -> state.cauldrons.size();
            case 1 -> state.spells.size();
            case 2 -> typed();
            case 3 -> (int) state.cauldrons.stream().filter(cauldron -> cauldron.broth).count();
            case 4 -> state.cooked;
            case 5 -> state.stores;
            case 6 -> boiled;
            case 7 -> state.cauldrons.stream().filter(cauldron -> !cauldron.broth)
                    .mapToInt(cauldron -> cauldron.content.intValue()).sum();
            case 8 -> input.length();
            case 9 -> history.size();
            default -> throw new IllegalArgumentException();
        };
    }

    public int append(char character) {
        if (character < ' ' || character > '~') {
            throw new IllegalArgumentException();
        }
        if (input.length() == 60) {
            throw new IllegalStateException();
        }
        input.append(character);
        return input.length();
    }

    public int errorPosition() {
        if (error == null) {
            throw new NoSuchElementException();
        }
        return error;
    }

    public int reason(boolean isCause, boolean isDetail) {
        int index = (isCause ? 2 : 0) + (isDetail ? 1 : 0);
        if (refusal == null || index >= refusal.length) {
            throw new NoSuchElementException();
        }
        return refusal[index];
    }

    public int undo() {
        if (history.isEmpty()) {
            throw new NoSuchElementException();
        }
        state = history.remove(history.size() - 1);
        return history.size();
    }

    public int save() {
        saved = state.copy();
        return state.spells.size();
    }

    public int restore() {
        if (saved == null) {
            throw new IllegalStateException();
        }
        state = saved.copy();
        history.clear();
        return state.spells.size();
    }
}
