import java.util.ArrayList;
import java.util.Collections;
import java.util.List;
import java.util.Random;

/** Draws texts: many good ones, and some with a sign or a token changed. */
final class Texts {
    private static final String[] TOKENS = {"rule", "bar", "chain", "single", "some", "left", "right", "word", "sort",
        "any", ":", "=", ";", "0", "9", "10", "100", "101", "0001", "00001", "anything", "anythings", "%", "A", "~"};

    private Texts() {
    }

    static String draw(Random random, int vocabulary) {
        List<String> tokens = new ArrayList<>();
        int statements = random.nextInt(8);
        for (int n = 0; n < statements; n++) {
            statement(random, vocabulary, tokens);
        }
        if (random.nextInt(20) == 0) {
            List<String> again = List.copyOf(tokens);
            for (int n = 0; n < 6 && tokens.size() < 300; n++) {
                tokens.addAll(again);
            }
        }
        if (random.nextInt(4) == 0) {
            spoil(random, tokens);
        }
        return joined(random, tokens);
    }

    private static void statement(Random random, int vocabulary, List<String> tokens) {
        switch (random.nextInt(8)) {
            case 0 -> add(tokens, "bar", 1 + random.nextInt(vocabulary), ";");
            case 1, 2 -> add(tokens, "chain", random.nextInt(4), "=", random.nextInt(4), random.nextInt(4), ";");
            case 3 -> add(tokens, "single", random.nextInt(4), ";");
            default -> rule(random, vocabulary, tokens);
        }
    }

    private static void rule(Random random, int vocabulary, List<String> tokens) {
        add(tokens, "rule", random.nextInt(3), ":");
        List<String> roles = new ArrayList<>(List.of("left", "right"));
        int others = random.nextInt(30) == 0 ? 9 : random.nextInt(4);
        for (int n = 0; n < others; n++) {
            roles.add(random.nextBoolean() ? "some" : "");
        }
        Collections.shuffle(roles, random);
        for (String role : roles) {
            if (!role.isEmpty()) {
                tokens.add(role);
            }
            if (!role.equals("some")) {
                spec(random, vocabulary, tokens);
            }
        }
        tokens.add(";");
    }

    private static void spec(Random random, int vocabulary, List<String> tokens) {
        switch (random.nextInt(4)) {
            case 0 -> add(tokens, "word", 1 + random.nextInt(vocabulary));
            case 1 -> add(tokens, "sort", random.nextInt(4));
            default -> tokens.add("any");
        }
    }

    private static void add(List<String> tokens, Object... parts) {
        for (Object part : parts) {
            tokens.add(part.toString());
        }
    }

    private static void spoil(Random random, List<String> tokens) {
        int at = random.nextInt(tokens.size() + 1);
        switch (random.nextInt(3)) {
            case 0 -> tokens.add(at, TOKENS[random.nextInt(TOKENS.length)]);
            case 1 -> tokens.subList(at, tokens.size()).clear();
            default -> {
                if (at < tokens.size()) {
                    tokens.set(at, TOKENS[random.nextInt(TOKENS.length)]);
                }
            }
        }
    }

    private static String joined(Random random, List<String> tokens) {
        StringBuilder text = new StringBuilder();
        boolean close = random.nextInt(10) == 0;
        for (String token : tokens) {
            text.append(token);
            if (!close || random.nextInt(3) > 0) {
                text.append(random.nextInt(5) == 0 ? "\n" : " ");
            }
        }
        return text.toString();
    }
}
