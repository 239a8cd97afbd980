import java.util.ArrayList;
import java.util.List;
import java.util.Random;

/** Texts by chance: many without a fault, many with one or two. */
final class Texts {
    private static final String[] STRANGE = {
        "-", "--1", "- 1", "A", "1a", "abcdefg", "moduluss", "\t", "\u00e9", ";", ";;", ",", "\u0000", "at", "own", "bound",
        "99999999999999999999", "-1000", "1000", "7", "0", "-0", "007", "f", "one", "x-1"};

    private final Random random;
    private final List<String> names = new ArrayList<>(List.of("one", "id", "mu", "phi", "tau", "sigma"));
    private final List<String> own = new ArrayList<>();

    Texts(Random random) {
        this.random = random;
    }

    String next() {
        StringBuilder text = new StringBuilder();
        int lines = random.nextInt(12);
        boolean wild = random.nextInt(3) == 0;
        for (int i = 0; i < lines; i++) {
            String line = line(i);
            if (wild && random.nextInt(6) == 0) {
                line = spoil(line);
            }
            text.append(line);
        }
        String all = text.toString();
        return all.length() > 640 ? all.substring(0, 640) : all;
    }

    private String blank() {
        int pick = random.nextInt(8);
        return pick == 0 ? "\n" : pick == 1 ? "  " : pick == 2 ? " \n " : " ";
    }

    private String gap() {
        return random.nextInt(4) == 0 ? blank() : "";
    }

    private String line(int i) {
        List<String> parts = new ArrayList<>();
        int pick = random.nextInt(i == 0 ? 4 : 16);
        switch (pick) {
            case 0 -> parts.addAll(List.of("bound", Integer.toString(1 + random.nextInt(100))));
            case 1 -> parts.addAll(List.of("modulus", Integer.toString(2 + random.nextInt(2) * random.nextInt(1000000))));
            case 2 -> parts.addAll(List.of("seed", Integer.toString(random.nextInt(100000))));
            case 3, 4, 5 -> own(parts);
            case 6, 7 -> made(parts, "times", 2);
            case 8, 9 -> made(parts, "over", 1);
            case 10, 11 -> made(parts, "point", 2);
            case 12, 13 -> twist(parts);
            default -> at(parts);
        }
        StringBuilder line = new StringBuilder(gap());
        for (String part : parts) {
            line.append(part).append(blank());
        }
        return line.append(";").append(gap()).toString();
    }

    private String newName() {
        String[] tried = {"f", "g", "h", "abcdef", "z", "bb", "ccc", "kk", "onex"};
        String name = tried[random.nextInt(tried.length)];
        return names.contains(name) && random.nextInt(20) != 0 ? name + (char) ('a' + random.nextInt(26)) : name;
    }

    private String some() {
        int late = random.nextBoolean() ? Math.max(0, names.size() - 3) : 0;
        return names.get(late + random.nextInt(names.size() - late));
    }

    private void own(List<String> parts) {
        String name = newName();
        parts.addAll(List.of("own", name));
        names.add(name);
        own.add(name);
    }

    private void made(List<String> parts, String word, int of) {
        String name = newName();
        parts.addAll(List.of(word, name));
        for (int i = 0; i < of; i++) {
            parts.add(some());
        }
        names.add(name);
    }

    private void twist(List<String> parts) {
        made(parts, "twist", 1);
        parts.add(Integer.toString(3 + random.nextInt(2)));
    }

    private void at(List<String> parts) {
        if (own.isEmpty()) {
            own(parts);
            return;
        }
        parts.addAll(List.of("at", own.get(random.nextInt(own.size())), Integer.toString(1 + random.nextInt(6)),
            Integer.toString(random.nextInt(1999) - 999), Integer.toString(random.nextInt(19) - 9)));
    }

    private String spoil(String line) {
        int at = random.nextInt(line.length());
        String strange = STRANGE[random.nextInt(STRANGE.length)];
        return switch (random.nextInt(4)) {
            case 0 -> line.substring(0, at) + line.substring(at + 1);
            case 1 -> line.substring(0, at) + strange + line.substring(at);
            case 2 -> line.replaceFirst(" [^ ]+", " " + java.util.regex.Matcher.quoteReplacement(strange));
            default -> line + line;
        };
    }
}
